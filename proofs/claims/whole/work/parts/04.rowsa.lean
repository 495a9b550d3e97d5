theorem eX0_init_0 : decode cX0_init 0 = .ok (.aload_n 0, 1) ∧ 0 + 1 = 1 := ⟨by decide +kernel, rfl⟩
theorem eX0_init_1 : decode cX0_init 1 = .ok (.invokespecial 3, 3) ∧ 1 + 3 = 4 := ⟨by decide +kernel, rfl⟩
theorem eX0_init_4 : decode cX0_init 4 = .ok (.aload_n 0, 1) ∧ 4 + 1 = 5 := ⟨by decide +kernel, rfl⟩
theorem eX0_init_5 : decode cX0_init 5 = .ok (.bipush 14, 2) ∧ 5 + 2 = 7 := ⟨by decide +kernel, rfl⟩
theorem eX0_init_7 : decode cX0_init 7 = .ok (.anewarray 9, 3) ∧ 7 + 3 = 10 := ⟨by decide +kernel, rfl⟩
theorem eX0_init_10 : decode cX0_init 10 = .ok (.putfield 11, 3) ∧ 10 + 3 = 13 := ⟨by decide +kernel, rfl⟩
theorem eX0_init_13 : decode cX0_init 13 = .ok (.aload_n 0, 1) ∧ 13 + 1 = 14 := ⟨by decide +kernel, rfl⟩
theorem eX0_init_14 : decode cX0_init 14 = .ok (.iconst 0, 1) ∧ 14 + 1 = 15 := ⟨by decide +kernel, rfl⟩
theorem eX0_init_15 : decode cX0_init 15 = .ok (.putfield 17, 3) ∧ 15 + 3 = 18 := ⟨by decide +kernel, rfl⟩
theorem eX0_init_18 : decode cX0_init 18 = .ok (.aload_n 0, 1) ∧ 18 + 1 = 19 := ⟨by decide +kernel, rfl⟩
theorem eX0_init_19 : decode cX0_init 19 = .ok (.iconst 0, 1) ∧ 19 + 1 = 20 := ⟨by decide +kernel, rfl⟩
theorem eX0_init_20 : decode cX0_init 20 = .ok (.putfield 21, 3) ∧ 20 + 3 = 23 := ⟨by decide +kernel, rfl⟩
theorem eX0_init_23 : decode cX0_init 23 = .ok (.iconst 0, 1) ∧ 23 + 1 = 24 := ⟨by decide +kernel, rfl⟩
theorem eX0_init_24 : decode cX0_init 24 = .ok (.istore_n 1, 1) ∧ 24 + 1 = 25 := ⟨by decide +kernel, rfl⟩
theorem eX0_init_25 : decode cX0_init 25 = .ok (.iload_n 1, 1) ∧ 25 + 1 = 26 := ⟨by decide +kernel, rfl⟩
theorem eX0_init_26 : decode cX0_init 26 = .ok (.aload_n 0, 1) ∧ 26 + 1 = 27 := ⟨by decide +kernel, rfl⟩
theorem eX0_init_27 : decode cX0_init 27 = .ok (.getfield 11, 3) ∧ 27 + 3 = 30 := ⟨by decide +kernel, rfl⟩
theorem eX0_init_30 : decode cX0_init 30 = .ok (.arraylength, 1) ∧ 30 + 1 = 31 := ⟨by decide +kernel, rfl⟩
theorem eX0_init_31 : decode cX0_init 31 = .ok (.if_icmp .ge 22, 3) ∧ ((31 : Nat) : Int) + 22 = ((53 : Nat) : Int) ∧ 31 + 3 = 34 := ⟨by decide +kernel, by decide, rfl⟩
theorem eX0_init_34 : decode cX0_init 34 = .ok (.aload_n 0, 1) ∧ 34 + 1 = 35 := ⟨by decide +kernel, rfl⟩
theorem eX0_init_35 : decode cX0_init 35 = .ok (.getfield 11, 3) ∧ 35 + 3 = 38 := ⟨by decide +kernel, rfl⟩
theorem eX0_init_38 : decode cX0_init 38 = .ok (.iload_n 1, 1) ∧ 38 + 1 = 39 := ⟨by decide +kernel, rfl⟩
theorem eX0_init_39 : decode cX0_init 39 = .ok (.new 9, 3) ∧ 39 + 3 = 42 := ⟨by decide +kernel, rfl⟩
theorem eX0_init_42 : decode cX0_init 42 = .ok (.dup, 1) ∧ 42 + 1 = 43 := ⟨by decide +kernel, rfl⟩
theorem eX0_init_43 : decode cX0_init 43 = .ok (.invokespecial 24, 3) ∧ 43 + 3 = 46 := ⟨by decide +kernel, rfl⟩
theorem eX0_init_46 : decode cX0_init 46 = .ok (.aastore, 1) ∧ 46 + 1 = 47 := ⟨by decide +kernel, rfl⟩
theorem eX0_init_47 : decode cX0_init 47 = .ok (.iinc 1 1, 3) ∧ 47 + 3 = 50 := ⟨by decide +kernel, rfl⟩
theorem eX0_init_50 : decode cX0_init 50 = .ok (.goto (-25), 3) ∧ ((50 : Nat) : Int) + (-25) = ((25 : Nat) : Int) := ⟨by decide +kernel, by decide⟩
theorem eX0_init_53 : decode cX0_init 53 = .ok (.return_, 1) := by decide +kernel
theorem eX0_clear_0 : decode cX0_clear 0 = .ok (.aload_n 0, 1) ∧ 0 + 1 = 1 := ⟨by decide +kernel, rfl⟩
theorem eX0_clear_1 : decode cX0_clear 1 = .ok (.iconst 0, 1) ∧ 1 + 1 = 2 := ⟨by decide +kernel, rfl⟩
theorem eX0_clear_2 : decode cX0_clear 2 = .ok (.putfield 17, 3) ∧ 2 + 3 = 5 := ⟨by decide +kernel, rfl⟩
theorem eX0_clear_5 : decode cX0_clear 5 = .ok (.aload_n 0, 1) ∧ 5 + 1 = 6 := ⟨by decide +kernel, rfl⟩
theorem eX0_clear_6 : decode cX0_clear 6 = .ok (.iconst 0, 1) ∧ 6 + 1 = 7 := ⟨by decide +kernel, rfl⟩
theorem eX0_clear_7 : decode cX0_clear 7 = .ok (.putfield 21, 3) ∧ 7 + 3 = 10 := ⟨by decide +kernel, rfl⟩
theorem eX0_clear_10 : decode cX0_clear 10 = .ok (.return_, 1) := by decide +kernel
theorem eX0_standAt_0 : decode cX0_standAt 0 = .ok (.aload_n 0, 1) ∧ 0 + 1 = 1 := ⟨by decide +kernel, rfl⟩
theorem eX0_standAt_1 : decode cX0_standAt 1 = .ok (.getfield 17, 3) ∧ 1 + 3 = 4 := ⟨by decide +kernel, rfl⟩
theorem eX0_standAt_4 : decode cX0_standAt 4 = .ok (.iload_n 1, 1) ∧ 4 + 1 = 5 := ⟨by decide +kernel, rfl⟩
theorem eX0_standAt_5 : decode cX0_standAt 5 = .ok (.iadd, 1) ∧ 5 + 1 = 6 := ⟨by decide +kernel, rfl⟩
theorem eX0_standAt_6 : decode cX0_standAt 6 = .ok (.bipush 14, 2) ∧ 6 + 2 = 8 := ⟨by decide +kernel, rfl⟩
theorem eX0_standAt_8 : decode cX0_standAt 8 = .ok (.irem, 1) ∧ 8 + 1 = 9 := ⟨by decide +kernel, rfl⟩
theorem eX0_standAt_9 : decode cX0_standAt 9 = .ok (.istore_n 2, 1) ∧ 9 + 1 = 10 := ⟨by decide +kernel, rfl⟩
theorem eX0_standAt_10 : decode cX0_standAt 10 = .ok (.iload_n 2, 1) ∧ 10 + 1 = 11 := ⟨by decide +kernel, rfl⟩
theorem eX0_standAt_11 : decode cX0_standAt 11 = .ok (.ifCond .lt 21, 3) ∧ ((11 : Nat) : Int) + 21 = ((32 : Nat) : Int) ∧ 11 + 3 = 14 := ⟨by decide +kernel, by decide, rfl⟩
theorem eX0_standAt_14 : decode cX0_standAt 14 = .ok (.iload_n 2, 1) ∧ 14 + 1 = 15 := ⟨by decide +kernel, rfl⟩
theorem eX0_standAt_15 : decode cX0_standAt 15 = .ok (.aload_n 0, 1) ∧ 15 + 1 = 16 := ⟨by decide +kernel, rfl⟩
theorem eX0_standAt_16 : decode cX0_standAt 16 = .ok (.getfield 11, 3) ∧ 16 + 3 = 19 := ⟨by decide +kernel, rfl⟩
theorem eX0_standAt_19 : decode cX0_standAt 19 = .ok (.arraylength, 1) ∧ 19 + 1 = 20 := ⟨by decide +kernel, rfl⟩
theorem eX0_standAt_20 : decode cX0_standAt 20 = .ok (.if_icmp .ge 12, 3) ∧ ((20 : Nat) : Int) + 12 = ((32 : Nat) : Int) ∧ 20 + 3 = 23 := ⟨by decide +kernel, by decide, rfl⟩
theorem eX0_standAt_23 : decode cX0_standAt 23 = .ok (.aload_n 0, 1) ∧ 23 + 1 = 24 := ⟨by decide +kernel, rfl⟩
theorem eX0_standAt_24 : decode cX0_standAt 24 = .ok (.getfield 11, 3) ∧ 24 + 3 = 27 := ⟨by decide +kernel, rfl⟩
theorem eX0_standAt_27 : decode cX0_standAt 27 = .ok (.iload_n 2, 1) ∧ 27 + 1 = 28 := ⟨by decide +kernel, rfl⟩
theorem eX0_standAt_28 : decode cX0_standAt 28 = .ok (.aaload, 1) ∧ 28 + 1 = 29 := ⟨by decide +kernel, rfl⟩
theorem eX0_standAt_29 : decode cX0_standAt 29 = .ok (.goto 4, 3) ∧ ((29 : Nat) : Int) + 4 = ((33 : Nat) : Int) := ⟨by decide +kernel, by decide⟩
theorem eX0_standAt_32 : decode cX0_standAt 32 = .ok (.aconst_null, 1) ∧ 32 + 1 = 33 := ⟨by decide +kernel, rfl⟩
theorem eX0_standAt_33 : decode cX0_standAt 33 = .ok (.areturn, 1) := by decide +kernel
theorem eX0_remember_0 : decode cX0_remember 0 = .ok (.aload_n 0, 1) ∧ 0 + 1 = 1 := ⟨by decide +kernel, rfl⟩
theorem eX0_remember_1 : decode cX0_remember 1 = .ok (.aload_n 0, 1) ∧ 1 + 1 = 2 := ⟨by decide +kernel, rfl⟩
theorem eX0_remember_2 : decode cX0_remember 2 = .ok (.getfield 21, 3) ∧ 2 + 3 = 5 := ⟨by decide +kernel, rfl⟩
theorem eX0_remember_5 : decode cX0_remember 5 = .ok (.invokevirtual 25, 3) ∧ 5 + 3 = 8 := ⟨by decide +kernel, rfl⟩
theorem eX0_remember_8 : decode cX0_remember 8 = .ok (.astore_n 2, 1) ∧ 8 + 1 = 9 := ⟨by decide +kernel, rfl⟩
theorem eX0_remember_9 : decode cX0_remember 9 = .ok (.aload_n 2, 1) ∧ 9 + 1 = 10 := ⟨by decide +kernel, rfl⟩
theorem eX0_remember_10 : decode cX0_remember 10 = .ok (.ifnonnull 4, 3) ∧ ((10 : Nat) : Int) + 4 = ((14 : Nat) : Int) := ⟨by decide +kernel, by decide⟩
theorem eX0_remember_13 : decode cX0_remember 13 = .ok (.return_, 1) := by decide +kernel
theorem eX0_remember_14 : decode cX0_remember 14 = .ok (.aload_n 2, 1) ∧ 14 + 1 = 15 := ⟨by decide +kernel, rfl⟩
theorem eX0_remember_15 : decode cX0_remember 15 = .ok (.aload_n 1, 1) ∧ 15 + 1 = 16 := ⟨by decide +kernel, rfl⟩
theorem eX0_remember_16 : decode cX0_remember 16 = .ok (.invokevirtual 29, 3) ∧ 16 + 3 = 19 := ⟨by decide +kernel, rfl⟩
theorem eX0_remember_19 : decode cX0_remember 19 = .ok (.aload_n 0, 1) ∧ 19 + 1 = 20 := ⟨by decide +kernel, rfl⟩
theorem eX0_remember_20 : decode cX0_remember 20 = .ok (.getfield 21, 3) ∧ 20 + 3 = 23 := ⟨by decide +kernel, rfl⟩
theorem eX0_remember_23 : decode cX0_remember 23 = .ok (.bipush 14, 2) ∧ 23 + 2 = 25 := ⟨by decide +kernel, rfl⟩
theorem eX0_remember_25 : decode cX0_remember 25 = .ok (.if_icmp .ge 16, 3) ∧ ((25 : Nat) : Int) + 16 = ((41 : Nat) : Int) ∧ 25 + 3 = 28 := ⟨by decide +kernel, by decide, rfl⟩
theorem eX0_remember_28 : decode cX0_remember 28 = .ok (.aload_n 0, 1) ∧ 28 + 1 = 29 := ⟨by decide +kernel, rfl⟩
theorem eX0_remember_29 : decode cX0_remember 29 = .ok (.dup, 1) ∧ 29 + 1 = 30 := ⟨by decide +kernel, rfl⟩
theorem eX0_remember_30 : decode cX0_remember 30 = .ok (.getfield 21, 3) ∧ 30 + 3 = 33 := ⟨by decide +kernel, rfl⟩
theorem eX0_remember_33 : decode cX0_remember 33 = .ok (.iconst 1, 1) ∧ 33 + 1 = 34 := ⟨by decide +kernel, rfl⟩
theorem eX0_remember_34 : decode cX0_remember 34 = .ok (.iadd, 1) ∧ 34 + 1 = 35 := ⟨by decide +kernel, rfl⟩
theorem eX0_remember_35 : decode cX0_remember 35 = .ok (.putfield 21, 3) ∧ 35 + 3 = 38 := ⟨by decide +kernel, rfl⟩
theorem eX0_remember_38 : decode cX0_remember 38 = .ok (.goto 16, 3) ∧ ((38 : Nat) : Int) + 16 = ((54 : Nat) : Int) := ⟨by decide +kernel, by decide⟩
theorem eX0_remember_41 : decode cX0_remember 41 = .ok (.aload_n 0, 1) ∧ 41 + 1 = 42 := ⟨by decide +kernel, rfl⟩
theorem eX0_remember_42 : decode cX0_remember 42 = .ok (.aload_n 0, 1) ∧ 42 + 1 = 43 := ⟨by decide +kernel, rfl⟩
theorem eX0_remember_43 : decode cX0_remember 43 = .ok (.getfield 17, 3) ∧ 43 + 3 = 46 := ⟨by decide +kernel, rfl⟩
theorem eX0_remember_46 : decode cX0_remember 46 = .ok (.iconst 1, 1) ∧ 46 + 1 = 47 := ⟨by decide +kernel, rfl⟩
theorem eX0_remember_47 : decode cX0_remember 47 = .ok (.iadd, 1) ∧ 47 + 1 = 48 := ⟨by decide +kernel, rfl⟩
theorem eX0_remember_48 : decode cX0_remember 48 = .ok (.bipush 14, 2) ∧ 48 + 2 = 50 := ⟨by decide +kernel, rfl⟩
theorem eX0_remember_50 : decode cX0_remember 50 = .ok (.irem, 1) ∧ 50 + 1 = 51 := ⟨by decide +kernel, rfl⟩
theorem eX0_remember_51 : decode cX0_remember 51 = .ok (.putfield 17, 3) ∧ 51 + 3 = 54 := ⟨by decide +kernel, rfl⟩
theorem eX0_remember_54 : decode cX0_remember 54 = .ok (.return_, 1) := by decide +kernel
theorem eX0_takeBack_0 : decode cX0_takeBack 0 = .ok (.aload_n 0, 1) ∧ 0 + 1 = 1 := ⟨by decide +kernel, rfl⟩
theorem eX0_takeBack_1 : decode cX0_takeBack 1 = .ok (.getfield 21, 3) ∧ 1 + 3 = 4 := ⟨by decide +kernel, rfl⟩
theorem eX0_takeBack_4 : decode cX0_takeBack 4 = .ok (.ifCond .gt 5, 3) ∧ ((4 : Nat) : Int) + 5 = ((9 : Nat) : Int) ∧ 4 + 3 = 7 := ⟨by decide +kernel, by decide, rfl⟩
theorem eX0_takeBack_7 : decode cX0_takeBack 7 = .ok (.iconst 0, 1) ∧ 7 + 1 = 8 := ⟨by decide +kernel, rfl⟩
theorem eX0_takeBack_8 : decode cX0_takeBack 8 = .ok (.ireturn, 1) := by decide +kernel
theorem eX0_takeBack_9 : decode cX0_takeBack 9 = .ok (.aload_n 0, 1) ∧ 9 + 1 = 10 := ⟨by decide +kernel, rfl⟩
theorem eX0_takeBack_10 : decode cX0_takeBack 10 = .ok (.dup, 1) ∧ 10 + 1 = 11 := ⟨by decide +kernel, rfl⟩
theorem eX0_takeBack_11 : decode cX0_takeBack 11 = .ok (.getfield 21, 3) ∧ 11 + 3 = 14 := ⟨by decide +kernel, rfl⟩
theorem eX0_takeBack_14 : decode cX0_takeBack 14 = .ok (.iconst 1, 1) ∧ 14 + 1 = 15 := ⟨by decide +kernel, rfl⟩
theorem eX0_takeBack_15 : decode cX0_takeBack 15 = .ok (.isub, 1) ∧ 15 + 1 = 16 := ⟨by decide +kernel, rfl⟩
theorem eX0_takeBack_16 : decode cX0_takeBack 16 = .ok (.putfield 21, 3) ∧ 16 + 3 = 19 := ⟨by decide +kernel, rfl⟩
theorem eX0_takeBack_19 : decode cX0_takeBack 19 = .ok (.aload_n 1, 1) ∧ 19 + 1 = 20 := ⟨by decide +kernel, rfl⟩
theorem eX0_takeBack_20 : decode cX0_takeBack 20 = .ok (.aload_n 0, 1) ∧ 20 + 1 = 21 := ⟨by decide +kernel, rfl⟩
theorem eX0_takeBack_21 : decode cX0_takeBack 21 = .ok (.aload_n 0, 1) ∧ 21 + 1 = 22 := ⟨by decide +kernel, rfl⟩
theorem eX0_takeBack_22 : decode cX0_takeBack 22 = .ok (.getfield 21, 3) ∧ 22 + 3 = 25 := ⟨by decide +kernel, rfl⟩
theorem eX0_takeBack_25 : decode cX0_takeBack 25 = .ok (.invokevirtual 25, 3) ∧ 25 + 3 = 28 := ⟨by decide +kernel, rfl⟩
theorem eX0_takeBack_28 : decode cX0_takeBack 28 = .ok (.invokevirtual 29, 3) ∧ 28 + 3 = 31 := ⟨by decide +kernel, rfl⟩
theorem eX0_takeBack_31 : decode cX0_takeBack 31 = .ok (.iconst 1, 1) ∧ 31 + 1 = 32 := ⟨by decide +kernel, rfl⟩
theorem eX0_takeBack_32 : decode cX0_takeBack 32 = .ok (.ireturn, 1) := by decide +kernel
theorem eX1_init_0 : decode cX1_init 0 = .ok (.aload_n 0, 1) ∧ 0 + 1 = 1 := ⟨by decide +kernel, rfl⟩
theorem eX1_init_1 : decode cX1_init 1 = .ok (.invokespecial 3, 3) ∧ 1 + 3 = 4 := ⟨by decide +kernel, rfl⟩
theorem eX1_init_4 : decode cX1_init 4 = .ok (.aload_n 0, 1) ∧ 4 + 1 = 5 := ⟨by decide +kernel, rfl⟩
theorem eX1_init_5 : decode cX1_init 5 = .ok (.bipush 30, 2) ∧ 5 + 2 = 7 := ⟨by decide +kernel, rfl⟩
theorem eX1_init_7 : decode cX1_init 7 = .ok (.newarray .int, 2) ∧ 7 + 2 = 9 := ⟨by decide +kernel, rfl⟩
theorem eX1_init_9 : decode cX1_init 9 = .ok (.putfield 9, 3) ∧ 9 + 3 = 12 := ⟨by decide +kernel, rfl⟩
theorem eX1_init_12 : decode cX1_init 12 = .ok (.aload_n 0, 1) ∧ 12 + 1 = 13 := ⟨by decide +kernel, rfl⟩
theorem eX1_init_13 : decode cX1_init 13 = .ok (.bipush 6, 2) ∧ 13 + 2 = 15 := ⟨by decide +kernel, rfl⟩
theorem eX1_init_15 : decode cX1_init 15 = .ok (.newarray .int, 2) ∧ 15 + 2 = 17 := ⟨by decide +kernel, rfl⟩
theorem eX1_init_17 : decode cX1_init 17 = .ok (.putfield 15, 3) ∧ 17 + 3 = 20 := ⟨by decide +kernel, rfl⟩
theorem eX1_init_20 : decode cX1_init 20 = .ok (.aload_n 0, 1) ∧ 20 + 1 = 21 := ⟨by decide +kernel, rfl⟩
theorem eX1_init_21 : decode cX1_init 21 = .ok (.iconst 0, 1) ∧ 21 + 1 = 22 := ⟨by decide +kernel, rfl⟩
theorem eX1_init_22 : decode cX1_init 22 = .ok (.putfield 18, 3) ∧ 22 + 3 = 25 := ⟨by decide +kernel, rfl⟩
theorem eX1_init_25 : decode cX1_init 25 = .ok (.aload_n 0, 1) ∧ 25 + 1 = 26 := ⟨by decide +kernel, rfl⟩
theorem eX1_init_26 : decode cX1_init 26 = .ok (.bipush 9, 2) ∧ 26 + 2 = 28 := ⟨by decide +kernel, rfl⟩
theorem eX1_init_28 : decode cX1_init 28 = .ok (.putfield 22, 3) ∧ 28 + 3 = 31 := ⟨by decide +kernel, rfl⟩
theorem eX1_init_31 : decode cX1_init 31 = .ok (.return_, 1) := by decide +kernel
theorem eX1_readFrom_0 : decode cX1_readFrom 0 = .ok (.aload_n 0, 1) ∧ 0 + 1 = 1 := ⟨by decide +kernel, rfl⟩
theorem eX1_readFrom_1 : decode cX1_readFrom 1 = .ok (.aload_n 1, 1) ∧ 1 + 1 = 2 := ⟨by decide +kernel, rfl⟩
theorem eX1_readFrom_2 : decode cX1_readFrom 2 = .ok (.iconst 1, 1) ∧ 2 + 1 = 3 := ⟨by decide +kernel, rfl⟩
theorem eX1_readFrom_3 : decode cX1_readFrom 3 = .ok (.invokevirtual 25, 3) ∧ 3 + 3 = 6 := ⟨by decide +kernel, rfl⟩
theorem eX1_readFrom_6 : decode cX1_readFrom 6 = .ok (.putfield 22, 3) ∧ 6 + 3 = 9 := ⟨by decide +kernel, rfl⟩
theorem eX1_readFrom_9 : decode cX1_readFrom 9 = .ok (.aload_n 0, 1) ∧ 9 + 1 = 10 := ⟨by decide +kernel, rfl⟩
theorem eX1_readFrom_10 : decode cX1_readFrom 10 = .ok (.aload_n 1, 1) ∧ 10 + 1 = 11 := ⟨by decide +kernel, rfl⟩
theorem eX1_readFrom_11 : decode cX1_readFrom 11 = .ok (.getfield 31, 3) ∧ 11 + 3 = 14 := ⟨by decide +kernel, rfl⟩
theorem eX1_readFrom_14 : decode cX1_readFrom 14 = .ok (.bipush 8, 2) ∧ 14 + 2 = 16 := ⟨by decide +kernel, rfl⟩
theorem eX1_readFrom_16 : decode cX1_readFrom 16 = .ok (.isub, 1) ∧ 16 + 1 = 17 := ⟨by decide +kernel, rfl⟩
theorem eX1_readFrom_17 : decode cX1_readFrom 17 = .ok (.bipush 6, 2) ∧ 17 + 2 = 19 := ⟨by decide +kernel, rfl⟩
theorem eX1_readFrom_19 : decode cX1_readFrom 19 = .ok (.idiv, 1) ∧ 19 + 1 = 20 := ⟨by decide +kernel, rfl⟩
theorem eX1_readFrom_20 : decode cX1_readFrom 20 = .ok (.putfield 18, 3) ∧ 20 + 3 = 23 := ⟨by decide +kernel, rfl⟩
theorem eX1_readFrom_23 : decode cX1_readFrom 23 = .ok (.iconst 0, 1) ∧ 23 + 1 = 24 := ⟨by decide +kernel, rfl⟩
theorem eX1_readFrom_24 : decode cX1_readFrom 24 = .ok (.istore_n 2, 1) ∧ 24 + 1 = 25 := ⟨by decide +kernel, rfl⟩
theorem eX1_readFrom_25 : decode cX1_readFrom 25 = .ok (.iload_n 2, 1) ∧ 25 + 1 = 26 := ⟨by decide +kernel, rfl⟩
theorem eX1_readFrom_26 : decode cX1_readFrom 26 = .ok (.aload_n 0, 1) ∧ 26 + 1 = 27 := ⟨by decide +kernel, rfl⟩
theorem eX1_readFrom_27 : decode cX1_readFrom 27 = .ok (.getfield 9, 3) ∧ 27 + 3 = 30 := ⟨by decide +kernel, rfl⟩
theorem eX1_readFrom_30 : decode cX1_readFrom 30 = .ok (.arraylength, 1) ∧ 30 + 1 = 31 := ⟨by decide +kernel, rfl⟩
theorem eX1_readFrom_31 : decode cX1_readFrom 31 = .ok (.if_icmp .ge 48, 3) ∧ ((31 : Nat) : Int) + 48 = ((79 : Nat) : Int) ∧ 31 + 3 = 34 := ⟨by decide +kernel, by decide, rfl⟩
theorem eX1_readFrom_34 : decode cX1_readFrom 34 = .ok (.bipush 8, 2) ∧ 34 + 2 = 36 := ⟨by decide +kernel, rfl⟩
theorem eX1_readFrom_36 : decode cX1_readFrom 36 = .ok (.iload_n 2, 1) ∧ 36 + 1 = 37 := ⟨by decide +kernel, rfl⟩
theorem eX1_readFrom_37 : decode cX1_readFrom 37 = .ok (.iconst 5, 1) ∧ 37 + 1 = 38 := ⟨by decide +kernel, rfl⟩
theorem eX1_readFrom_38 : decode cX1_readFrom 38 = .ok (.idiv, 1) ∧ 38 + 1 = 39 := ⟨by decide +kernel, rfl⟩
theorem eX1_readFrom_39 : decode cX1_readFrom 39 = .ok (.bipush 6, 2) ∧ 39 + 2 = 41 := ⟨by decide +kernel, rfl⟩
theorem eX1_readFrom_41 : decode cX1_readFrom 41 = .ok (.imul, 1) ∧ 41 + 1 = 42 := ⟨by decide +kernel, rfl⟩
theorem eX1_readFrom_42 : decode cX1_readFrom 42 = .ok (.iadd, 1) ∧ 42 + 1 = 43 := ⟨by decide +kernel, rfl⟩
theorem eX1_readFrom_43 : decode cX1_readFrom 43 = .ok (.iconst 1, 1) ∧ 43 + 1 = 44 := ⟨by decide +kernel, rfl⟩
theorem eX1_readFrom_44 : decode cX1_readFrom 44 = .ok (.iadd, 1) ∧ 44 + 1 = 45 := ⟨by decide +kernel, rfl⟩
theorem eX1_readFrom_45 : decode cX1_readFrom 45 = .ok (.iload_n 2, 1) ∧ 45 + 1 = 46 := ⟨by decide +kernel, rfl⟩
theorem eX1_readFrom_46 : decode cX1_readFrom 46 = .ok (.iconst 5, 1) ∧ 46 + 1 = 47 := ⟨by decide +kernel, rfl⟩
theorem eX1_readFrom_47 : decode cX1_readFrom 47 = .ok (.irem, 1) ∧ 47 + 1 = 48 := ⟨by decide +kernel, rfl⟩
theorem eX1_readFrom_48 : decode cX1_readFrom 48 = .ok (.iadd, 1) ∧ 48 + 1 = 49 := ⟨by decide +kernel, rfl⟩
theorem eX1_readFrom_49 : decode cX1_readFrom 49 = .ok (.istore_n 3, 1) ∧ 49 + 1 = 50 := ⟨by decide +kernel, rfl⟩
theorem eX1_readFrom_50 : decode cX1_readFrom 50 = .ok (.aload_n 0, 1) ∧ 50 + 1 = 51 := ⟨by decide +kernel, rfl⟩
theorem eX1_readFrom_51 : decode cX1_readFrom 51 = .ok (.getfield 9, 3) ∧ 51 + 3 = 54 := ⟨by decide +kernel, rfl⟩
theorem eX1_readFrom_54 : decode cX1_readFrom 54 = .ok (.iload_n 2, 1) ∧ 54 + 1 = 55 := ⟨by decide +kernel, rfl⟩
theorem eX1_readFrom_55 : decode cX1_readFrom 55 = .ok (.iload_n 3, 1) ∧ 55 + 1 = 56 := ⟨by decide +kernel, rfl⟩
theorem eX1_readFrom_56 : decode cX1_readFrom 56 = .ok (.aload_n 1, 1) ∧ 56 + 1 = 57 := ⟨by decide +kernel, rfl⟩
theorem eX1_readFrom_57 : decode cX1_readFrom 57 = .ok (.getfield 31, 3) ∧ 57 + 3 = 60 := ⟨by decide +kernel, rfl⟩
theorem eX1_readFrom_60 : decode cX1_readFrom 60 = .ok (.if_icmp .ge 11, 3) ∧ ((60 : Nat) : Int) + 11 = ((71 : Nat) : Int) ∧ 60 + 3 = 63 := ⟨by decide +kernel, by decide, rfl⟩
theorem eX1_readFrom_63 : decode cX1_readFrom 63 = .ok (.aload_n 1, 1) ∧ 63 + 1 = 64 := ⟨by decide +kernel, rfl⟩
theorem eX1_readFrom_64 : decode cX1_readFrom 64 = .ok (.iload_n 3, 1) ∧ 64 + 1 = 65 := ⟨by decide +kernel, rfl⟩
theorem eX1_readFrom_65 : decode cX1_readFrom 65 = .ok (.invokevirtual 25, 3) ∧ 65 + 3 = 68 := ⟨by decide +kernel, rfl⟩
theorem eX1_readFrom_68 : decode cX1_readFrom 68 = .ok (.goto 4, 3) ∧ ((68 : Nat) : Int) + 4 = ((72 : Nat) : Int) := ⟨by decide +kernel, by decide⟩
theorem eX1_readFrom_71 : decode cX1_readFrom 71 = .ok (.iconst 0, 1) ∧ 71 + 1 = 72 := ⟨by decide +kernel, rfl⟩
theorem eX1_readFrom_72 : decode cX1_readFrom 72 = .ok (.iastore, 1) ∧ 72 + 1 = 73 := ⟨by decide +kernel, rfl⟩
theorem eX1_readFrom_73 : decode cX1_readFrom 73 = .ok (.iinc 2 1, 3) ∧ 73 + 3 = 76 := ⟨by decide +kernel, rfl⟩
theorem eX1_readFrom_76 : decode cX1_readFrom 76 = .ok (.goto (-51), 3) ∧ ((76 : Nat) : Int) + (-51) = ((25 : Nat) : Int) := ⟨by decide +kernel, by decide⟩
theorem eX1_readFrom_79 : decode cX1_readFrom 79 = .ok (.iconst 0, 1) ∧ 79 + 1 = 80 := ⟨by decide +kernel, rfl⟩
theorem eX1_readFrom_80 : decode cX1_readFrom 80 = .ok (.istore_n 2, 1) ∧ 80 + 1 = 81 := ⟨by decide +kernel, rfl⟩
theorem eX1_readFrom_81 : decode cX1_readFrom 81 = .ok (.iload_n 2, 1) ∧ 81 + 1 = 82 := ⟨by decide +kernel, rfl⟩
theorem eX1_readFrom_82 : decode cX1_readFrom 82 = .ok (.aload_n 0, 1) ∧ 82 + 1 = 83 := ⟨by decide +kernel, rfl⟩
theorem eX1_readFrom_83 : decode cX1_readFrom 83 = .ok (.getfield 15, 3) ∧ 83 + 3 = 86 := ⟨by decide +kernel, rfl⟩
theorem eX1_readFrom_86 : decode cX1_readFrom 86 = .ok (.arraylength, 1) ∧ 86 + 1 = 87 := ⟨by decide +kernel, rfl⟩
theorem eX1_readFrom_87 : decode cX1_readFrom 87 = .ok (.if_icmp .ge 43, 3) ∧ ((87 : Nat) : Int) + 43 = ((130 : Nat) : Int) ∧ 87 + 3 = 90 := ⟨by decide +kernel, by decide, rfl⟩
theorem eX1_readFrom_90 : decode cX1_readFrom 90 = .ok (.aload_n 0, 1) ∧ 90 + 1 = 91 := ⟨by decide +kernel, rfl⟩
theorem eX1_readFrom_91 : decode cX1_readFrom 91 = .ok (.iload_n 2, 1) ∧ 91 + 1 = 92 := ⟨by decide +kernel, rfl⟩
theorem eX1_readFrom_92 : decode cX1_readFrom 92 = .ok (.iconst 4, 1) ∧ 92 + 1 = 93 := ⟨by decide +kernel, rfl⟩
theorem eX1_readFrom_93 : decode cX1_readFrom 93 = .ok (.invokevirtual 34, 3) ∧ 93 + 3 = 96 := ⟨by decide +kernel, rfl⟩
theorem eX1_readFrom_96 : decode cX1_readFrom 96 = .ok (.iconst 3, 1) ∧ 96 + 1 = 97 := ⟨by decide +kernel, rfl⟩
theorem eX1_readFrom_97 : decode cX1_readFrom 97 = .ok (.if_icmp .ne 7, 3) ∧ ((97 : Nat) : Int) + 7 = ((104 : Nat) : Int) ∧ 97 + 3 = 100 := ⟨by decide +kernel, by decide, rfl⟩
theorem eX1_readFrom_100 : decode cX1_readFrom 100 = .ok (.iconst 1, 1) ∧ 100 + 1 = 101 := ⟨by decide +kernel, rfl⟩
theorem eX1_readFrom_101 : decode cX1_readFrom 101 = .ok (.goto 4, 3) ∧ ((101 : Nat) : Int) + 4 = ((105 : Nat) : Int) := ⟨by decide +kernel, by decide⟩
theorem eX1_readFrom_104 : decode cX1_readFrom 104 = .ok (.iconst 0, 1) ∧ 104 + 1 = 105 := ⟨by decide +kernel, rfl⟩
theorem eX1_readFrom_105 : decode cX1_readFrom 105 = .ok (.istore_n 3, 1) ∧ 105 + 1 = 106 := ⟨by decide +kernel, rfl⟩
theorem eX1_readFrom_106 : decode cX1_readFrom 106 = .ok (.aload_n 0, 1) ∧ 106 + 1 = 107 := ⟨by decide +kernel, rfl⟩
theorem eX1_readFrom_107 : decode cX1_readFrom 107 = .ok (.getfield 15, 3) ∧ 107 + 3 = 110 := ⟨by decide +kernel, rfl⟩
theorem eX1_readFrom_110 : decode cX1_readFrom 110 = .ok (.iload_n 2, 1) ∧ 110 + 1 = 111 := ⟨by decide +kernel, rfl⟩
theorem eX1_readFrom_111 : decode cX1_readFrom 111 = .ok (.iconst 1, 1) ∧ 111 + 1 = 112 := ⟨by decide +kernel, rfl⟩
theorem eX1_readFrom_112 : decode cX1_readFrom 112 = .ok (.aload_n 0, 1) ∧ 112 + 1 = 113 := ⟨by decide +kernel, rfl⟩
theorem eX1_readFrom_113 : decode cX1_readFrom 113 = .ok (.iload_n 2, 1) ∧ 113 + 1 = 114 := ⟨by decide +kernel, rfl⟩
theorem eX1_readFrom_114 : decode cX1_readFrom 114 = .ok (.iconst 3, 1) ∧ 114 + 1 = 115 := ⟨by decide +kernel, rfl⟩
theorem eX1_readFrom_115 : decode cX1_readFrom 115 = .ok (.invokevirtual 34, 3) ∧ 115 + 3 = 118 := ⟨by decide +kernel, rfl⟩
theorem eX1_readFrom_118 : decode cX1_readFrom 118 = .ok (.iload_n 3, 1) ∧ 118 + 1 = 119 := ⟨by decide +kernel, rfl⟩
theorem eX1_readFrom_119 : decode cX1_readFrom 119 = .ok (.isub, 1) ∧ 119 + 1 = 120 := ⟨by decide +kernel, rfl⟩
theorem eX1_readFrom_120 : decode cX1_readFrom 120 = .ok (.invokestatic 37, 3) ∧ 120 + 3 = 123 := ⟨by decide +kernel, rfl⟩
theorem eX1_readFrom_123 : decode cX1_readFrom 123 = .ok (.iastore, 1) ∧ 123 + 1 = 124 := ⟨by decide +kernel, rfl⟩
theorem eX1_readFrom_124 : decode cX1_readFrom 124 = .ok (.iinc 2 1, 3) ∧ 124 + 3 = 127 := ⟨by decide +kernel, rfl⟩
theorem eX1_readFrom_127 : decode cX1_readFrom 127 = .ok (.goto (-46), 3) ∧ ((127 : Nat) : Int) + (-46) = ((81 : Nat) : Int) := ⟨by decide +kernel, by decide⟩
theorem eX1_readFrom_130 : decode cX1_readFrom 130 = .ok (.return_, 1) := by decide +kernel
theorem eX1_has_0 : decode cX1_has 0 = .ok (.iload_n 1, 1) ∧ 0 + 1 = 1 := ⟨by decide +kernel, rfl⟩
theorem eX1_has_1 : decode cX1_has 1 = .ok (.ifCond .lt 15, 3) ∧ ((1 : Nat) : Int) + 15 = ((16 : Nat) : Int) ∧ 1 + 3 = 4 := ⟨by decide +kernel, by decide, rfl⟩
theorem eX1_has_4 : decode cX1_has 4 = .ok (.iload_n 1, 1) ∧ 4 + 1 = 5 := ⟨by decide +kernel, rfl⟩
theorem eX1_has_5 : decode cX1_has 5 = .ok (.aload_n 0, 1) ∧ 5 + 1 = 6 := ⟨by decide +kernel, rfl⟩
theorem eX1_has_6 : decode cX1_has 6 = .ok (.getfield 18, 3) ∧ 6 + 3 = 9 := ⟨by decide +kernel, rfl⟩
theorem eX1_has_9 : decode cX1_has 9 = .ok (.if_icmp .ge 7, 3) ∧ ((9 : Nat) : Int) + 7 = ((16 : Nat) : Int) ∧ 9 + 3 = 12 := ⟨by decide +kernel, by decide, rfl⟩
theorem eX1_has_12 : decode cX1_has 12 = .ok (.iconst 1, 1) ∧ 12 + 1 = 13 := ⟨by decide +kernel, rfl⟩
theorem eX1_has_13 : decode cX1_has 13 = .ok (.goto 4, 3) ∧ ((13 : Nat) : Int) + 4 = ((17 : Nat) : Int) := ⟨by decide +kernel, by decide⟩
theorem eX1_has_16 : decode cX1_has 16 = .ok (.iconst 0, 1) ∧ 16 + 1 = 17 := ⟨by decide +kernel, rfl⟩
theorem eX1_has_17 : decode cX1_has 17 = .ok (.ireturn, 1) := by decide +kernel
theorem eX1_everyone_0 : decode cX1_everyone 0 = .ok (.iconst 1, 1) ∧ 0 + 1 = 1 := ⟨by decide +kernel, rfl⟩
theorem eX1_everyone_1 : decode cX1_everyone 1 = .ok (.aload_n 0, 1) ∧ 1 + 1 = 2 := ⟨by decide +kernel, rfl⟩
theorem eX1_everyone_2 : decode cX1_everyone 2 = .ok (.getfield 18, 3) ∧ 2 + 3 = 5 := ⟨by decide +kernel, rfl⟩
theorem eX1_everyone_5 : decode cX1_everyone 5 = .ok (.ishl, 1) ∧ 5 + 1 = 6 := ⟨by decide +kernel, rfl⟩
theorem eX1_everyone_6 : decode cX1_everyone 6 = .ok (.iconst 1, 1) ∧ 6 + 1 = 7 := ⟨by decide +kernel, rfl⟩
theorem eX1_everyone_7 : decode cX1_everyone 7 = .ok (.isub, 1) ∧ 7 + 1 = 8 := ⟨by decide +kernel, rfl⟩
theorem eX1_everyone_8 : decode cX1_everyone 8 = .ok (.ireturn, 1) := by decide +kernel
theorem eX1_figure_0 : decode cX1_figure 0 = .ok (.iload_n 1, 1) ∧ 0 + 1 = 1 := ⟨by decide +kernel, rfl⟩
theorem eX1_figure_1 : decode cX1_figure 1 = .ok (.iconst 5, 1) ∧ 1 + 1 = 2 := ⟨by decide +kernel, rfl⟩
theorem eX1_figure_2 : decode cX1_figure 2 = .ok (.imul, 1) ∧ 2 + 1 = 3 := ⟨by decide +kernel, rfl⟩
theorem eX1_figure_3 : decode cX1_figure 3 = .ok (.iload_n 2, 1) ∧ 3 + 1 = 4 := ⟨by decide +kernel, rfl⟩
theorem eX1_figure_4 : decode cX1_figure 4 = .ok (.iadd, 1) ∧ 4 + 1 = 5 := ⟨by decide +kernel, rfl⟩
theorem eX1_figure_5 : decode cX1_figure 5 = .ok (.istore_n 3, 1) ∧ 5 + 1 = 6 := ⟨by decide +kernel, rfl⟩
theorem eX1_figure_6 : decode cX1_figure 6 = .ok (.iload_n 3, 1) ∧ 6 + 1 = 7 := ⟨by decide +kernel, rfl⟩
theorem eX1_figure_7 : decode cX1_figure 7 = .ok (.ifCond .lt 21, 3) ∧ ((7 : Nat) : Int) + 21 = ((28 : Nat) : Int) ∧ 7 + 3 = 10 := ⟨by decide +kernel, by decide, rfl⟩
theorem eX1_figure_10 : decode cX1_figure 10 = .ok (.iload_n 3, 1) ∧ 10 + 1 = 11 := ⟨by decide +kernel, rfl⟩
theorem eX1_figure_11 : decode cX1_figure 11 = .ok (.aload_n 0, 1) ∧ 11 + 1 = 12 := ⟨by decide +kernel, rfl⟩
theorem eX1_figure_12 : decode cX1_figure 12 = .ok (.getfield 9, 3) ∧ 12 + 3 = 15 := ⟨by decide +kernel, rfl⟩
theorem eX1_figure_15 : decode cX1_figure 15 = .ok (.arraylength, 1) ∧ 15 + 1 = 16 := ⟨by decide +kernel, rfl⟩
theorem eX1_figure_16 : decode cX1_figure 16 = .ok (.if_icmp .ge 12, 3) ∧ ((16 : Nat) : Int) + 12 = ((28 : Nat) : Int) ∧ 16 + 3 = 19 := ⟨by decide +kernel, by decide, rfl⟩
theorem eX1_figure_19 : decode cX1_figure 19 = .ok (.aload_n 0, 1) ∧ 19 + 1 = 20 := ⟨by decide +kernel, rfl⟩
theorem eX1_figure_20 : decode cX1_figure 20 = .ok (.getfield 9, 3) ∧ 20 + 3 = 23 := ⟨by decide +kernel, rfl⟩
theorem eX1_figure_23 : decode cX1_figure 23 = .ok (.iload_n 3, 1) ∧ 23 + 1 = 24 := ⟨by decide +kernel, rfl⟩
theorem eX1_figure_24 : decode cX1_figure 24 = .ok (.iaload, 1) ∧ 24 + 1 = 25 := ⟨by decide +kernel, rfl⟩
theorem eX1_figure_25 : decode cX1_figure 25 = .ok (.goto 4, 3) ∧ ((25 : Nat) : Int) + 4 = ((29 : Nat) : Int) := ⟨by decide +kernel, by decide⟩
theorem eX1_figure_28 : decode cX1_figure 28 = .ok (.iconst 0, 1) ∧ 28 + 1 = 29 := ⟨by decide +kernel, rfl⟩
theorem eX1_figure_29 : decode cX1_figure 29 = .ok (.ireturn, 1) := by decide +kernel
theorem eX1_begin_0 : decode cX1_begin 0 = .ok (.aload_n 0, 1) ∧ 0 + 1 = 1 := ⟨by decide +kernel, rfl⟩
theorem eX1_begin_1 : decode cX1_begin 1 = .ok (.iload_n 1, 1) ∧ 1 + 1 = 2 := ⟨by decide +kernel, rfl⟩
theorem eX1_begin_2 : decode cX1_begin 2 = .ok (.iconst 4, 1) ∧ 2 + 1 = 3 := ⟨by decide +kernel, rfl⟩
theorem eX1_begin_3 : decode cX1_begin 3 = .ok (.invokevirtual 34, 3) ∧ 3 + 3 = 6 := ⟨by decide +kernel, rfl⟩
theorem eX1_begin_6 : decode cX1_begin 6 = .ok (.iconst 2, 1) ∧ 6 + 1 = 7 := ⟨by decide +kernel, rfl⟩
theorem eX1_begin_7 : decode cX1_begin 7 = .ok (.if_icmp .ne 7, 3) ∧ ((7 : Nat) : Int) + 7 = ((14 : Nat) : Int) ∧ 7 + 3 = 10 := ⟨by decide +kernel, by decide, rfl⟩
theorem eX1_begin_10 : decode cX1_begin 10 = .ok (.iconst 1, 1) ∧ 10 + 1 = 11 := ⟨by decide +kernel, rfl⟩
theorem eX1_begin_11 : decode cX1_begin 11 = .ok (.goto 4, 3) ∧ ((11 : Nat) : Int) + 4 = ((15 : Nat) : Int) := ⟨by decide +kernel, by decide⟩
theorem eX1_begin_14 : decode cX1_begin 14 = .ok (.iconst 0, 1) ∧ 14 + 1 = 15 := ⟨by decide +kernel, rfl⟩
theorem eX1_begin_15 : decode cX1_begin 15 = .ok (.istore 4, 2) ∧ 15 + 2 = 17 := ⟨by decide +kernel, rfl⟩
theorem eX1_begin_17 : decode cX1_begin 17 = .ok (.iload_n 2, 1) ∧ 17 + 1 = 18 := ⟨by decide +kernel, rfl⟩
theorem eX1_begin_18 : decode cX1_begin 18 = .ok (.iload_n 3, 1) ∧ 18 + 1 = 19 := ⟨by decide +kernel, rfl⟩
theorem eX1_begin_19 : decode cX1_begin 19 = .ok (.iadd, 1) ∧ 19 + 1 = 20 := ⟨by decide +kernel, rfl⟩
theorem eX1_begin_20 : decode cX1_begin 20 = .ok (.iload 4, 2) ∧ 20 + 2 = 22 := ⟨by decide +kernel, rfl⟩
theorem eX1_begin_22 : decode cX1_begin 22 = .ok (.iadd, 1) ∧ 22 + 1 = 23 := ⟨by decide +kernel, rfl⟩
theorem eX1_begin_23 : decode cX1_begin 23 = .ok (.aload_n 0, 1) ∧ 23 + 1 = 24 := ⟨by decide +kernel, rfl⟩
theorem eX1_begin_24 : decode cX1_begin 24 = .ok (.iload_n 1, 1) ∧ 24 + 1 = 25 := ⟨by decide +kernel, rfl⟩
theorem eX1_begin_25 : decode cX1_begin 25 = .ok (.iconst 1, 1) ∧ 25 + 1 = 26 := ⟨by decide +kernel, rfl⟩
theorem eX1_begin_26 : decode cX1_begin 26 = .ok (.invokevirtual 34, 3) ∧ 26 + 3 = 29 := ⟨by decide +kernel, rfl⟩
theorem eX1_begin_29 : decode cX1_begin 29 = .ok (.invokestatic 37, 3) ∧ 29 + 3 = 32 := ⟨by decide +kernel, rfl⟩
theorem eX1_begin_32 : decode cX1_begin 32 = .ok (.istore 5, 2) ∧ 32 + 2 = 34 := ⟨by decide +kernel, rfl⟩
theorem eX1_begin_34 : decode cX1_begin 34 = .ok (.iload 5, 2) ∧ 34 + 2 = 36 := ⟨by decide +kernel, rfl⟩
theorem eX1_begin_36 : decode cX1_begin 36 = .ok (.aload_n 0, 1) ∧ 36 + 1 = 37 := ⟨by decide +kernel, rfl⟩
theorem eX1_begin_37 : decode cX1_begin 37 = .ok (.iload_n 1, 1) ∧ 37 + 1 = 38 := ⟨by decide +kernel, rfl⟩
theorem eX1_begin_38 : decode cX1_begin 38 = .ok (.iconst 2, 1) ∧ 38 + 1 = 39 := ⟨by decide +kernel, rfl⟩
theorem eX1_begin_39 : decode cX1_begin 39 = .ok (.invokevirtual 34, 3) ∧ 39 + 3 = 42 := ⟨by decide +kernel, rfl⟩
theorem eX1_begin_42 : decode cX1_begin 42 = .ok (.if_icmp .gt 26, 3) ∧ ((42 : Nat) : Int) + 26 = ((68 : Nat) : Int) ∧ 42 + 3 = 45 := ⟨by decide +kernel, by decide, rfl⟩
theorem eX1_begin_45 : decode cX1_begin 45 = .ok (.iload 5, 2) ∧ 45 + 2 = 47 := ⟨by decide +kernel, rfl⟩
theorem eX1_begin_47 : decode cX1_begin 47 = .ok (.aload_n 0, 1) ∧ 47 + 1 = 48 := ⟨by decide +kernel, rfl⟩
theorem eX1_begin_48 : decode cX1_begin 48 = .ok (.getfield 15, 3) ∧ 48 + 3 = 51 := ⟨by decide +kernel, rfl⟩
theorem eX1_begin_51 : decode cX1_begin 51 = .ok (.iload_n 1, 1) ∧ 51 + 1 = 52 := ⟨by decide +kernel, rfl⟩
theorem eX1_begin_52 : decode cX1_begin 52 = .ok (.invokestatic 42, 3) ∧ 52 + 3 = 55 := ⟨by decide +kernel, rfl⟩
theorem eX1_begin_55 : decode cX1_begin 55 = .ok (.iadd, 1) ∧ 55 + 1 = 56 := ⟨by decide +kernel, rfl⟩
theorem eX1_begin_56 : decode cX1_begin 56 = .ok (.aload_n 0, 1) ∧ 56 + 1 = 57 := ⟨by decide +kernel, rfl⟩
theorem eX1_begin_57 : decode cX1_begin 57 = .ok (.getfield 22, 3) ∧ 57 + 3 = 60 := ⟨by decide +kernel, rfl⟩
theorem eX1_begin_60 : decode cX1_begin 60 = .ok (.if_icmp .gt 8, 3) ∧ ((60 : Nat) : Int) + 8 = ((68 : Nat) : Int) ∧ 60 + 3 = 63 := ⟨by decide +kernel, by decide, rfl⟩
theorem eX1_begin_63 : decode cX1_begin 63 = .ok (.iload 5, 2) ∧ 63 + 2 = 65 := ⟨by decide +kernel, rfl⟩
theorem eX1_begin_65 : decode cX1_begin 65 = .ok (.goto 5, 3) ∧ ((65 : Nat) : Int) + 5 = ((70 : Nat) : Int) := ⟨by decide +kernel, by decide⟩
theorem eX1_begin_68 : decode cX1_begin 68 = .ok (.bipush (-9), 2) ∧ 68 + 2 = 70 := ⟨by decide +kernel, rfl⟩
theorem eX1_begin_70 : decode cX1_begin 70 = .ok (.ireturn, 1) := by decide +kernel
theorem eX1_ringFree_0 : decode cX1_ringFree 0 = .ok (.iload_n 2, 1) ∧ 0 + 1 = 1 := ⟨by decide +kernel, rfl⟩
theorem eX1_ringFree_1 : decode cX1_ringFree 1 = .ok (.aload_n 0, 1) ∧ 1 + 1 = 2 := ⟨by decide +kernel, rfl⟩
theorem eX1_ringFree_2 : decode cX1_ringFree 2 = .ok (.getfield 15, 3) ∧ 2 + 3 = 5 := ⟨by decide +kernel, rfl⟩
theorem eX1_ringFree_5 : decode cX1_ringFree 5 = .ok (.iload_n 1, 1) ∧ 5 + 1 = 6 := ⟨by decide +kernel, rfl⟩
theorem eX1_ringFree_6 : decode cX1_ringFree 6 = .ok (.invokestatic 42, 3) ∧ 6 + 3 = 9 := ⟨by decide +kernel, rfl⟩
theorem eX1_ringFree_9 : decode cX1_ringFree 9 = .ok (.iadd, 1) ∧ 9 + 1 = 10 := ⟨by decide +kernel, rfl⟩
theorem eX1_ringFree_10 : decode cX1_ringFree 10 = .ok (.aload_n 0, 1) ∧ 10 + 1 = 11 := ⟨by decide +kernel, rfl⟩
theorem eX1_ringFree_11 : decode cX1_ringFree 11 = .ok (.iload_n 1, 1) ∧ 11 + 1 = 12 := ⟨by decide +kernel, rfl⟩
theorem eX1_ringFree_12 : decode cX1_ringFree 12 = .ok (.iconst 4, 1) ∧ 12 + 1 = 13 := ⟨by decide +kernel, rfl⟩
theorem eX1_ringFree_13 : decode cX1_ringFree 13 = .ok (.invokevirtual 34, 3) ∧ 13 + 3 = 16 := ⟨by decide +kernel, rfl⟩
theorem eX1_ringFree_16 : decode cX1_ringFree 16 = .ok (.iconst 1, 1) ∧ 16 + 1 = 17 := ⟨by decide +kernel, rfl⟩
theorem eX1_ringFree_17 : decode cX1_ringFree 17 = .ok (.if_icmp .ne 7, 3) ∧ ((17 : Nat) : Int) + 7 = ((24 : Nat) : Int) ∧ 17 + 3 = 20 := ⟨by decide +kernel, by decide, rfl⟩
theorem eX1_ringFree_20 : decode cX1_ringFree 20 = .ok (.iconst 1, 1) ∧ 20 + 1 = 21 := ⟨by decide +kernel, rfl⟩
theorem eX1_ringFree_21 : decode cX1_ringFree 21 = .ok (.goto 4, 3) ∧ ((21 : Nat) : Int) + 4 = ((25 : Nat) : Int) := ⟨by decide +kernel, by decide⟩
theorem eX1_ringFree_24 : decode cX1_ringFree 24 = .ok (.iconst 0, 1) ∧ 24 + 1 = 25 := ⟨by decide +kernel, rfl⟩
theorem eX1_ringFree_25 : decode cX1_ringFree 25 = .ok (.iadd, 1) ∧ 25 + 1 = 26 := ⟨by decide +kernel, rfl⟩
theorem eX1_ringFree_26 : decode cX1_ringFree 26 = .ok (.ireturn, 1) := by decide +kernel
theorem eX1_beginOn_0 : decode cX1_beginOn 0 = .ok (.aload_n 0, 1) ∧ 0 + 1 = 1 := ⟨by decide +kernel, rfl⟩
theorem eX1_beginOn_1 : decode cX1_beginOn 1 = .ok (.iload_n 2, 1) ∧ 1 + 1 = 2 := ⟨by decide +kernel, rfl⟩
theorem eX1_beginOn_2 : decode cX1_beginOn 2 = .ok (.invokevirtual 46, 3) ∧ 2 + 3 = 5 := ⟨by decide +kernel, rfl⟩
theorem eX1_beginOn_5 : decode cX1_beginOn 5 = .ok (.ifCond .eq 11, 3) ∧ ((5 : Nat) : Int) + 11 = ((16 : Nat) : Int) ∧ 5 + 3 = 8 := ⟨by decide +kernel, by decide, rfl⟩
theorem eX1_beginOn_8 : decode cX1_beginOn 8 = .ok (.aload_n 1, 1) ∧ 8 + 1 = 9 := ⟨by decide +kernel, rfl⟩
theorem eX1_beginOn_9 : decode cX1_beginOn 9 = .ok (.iload_n 2, 1) ∧ 9 + 1 = 10 := ⟨by decide +kernel, rfl⟩
theorem eX1_beginOn_10 : decode cX1_beginOn 10 = .ok (.invokevirtual 50, 3) ∧ 10 + 3 = 13 := ⟨by decide +kernel, rfl⟩
theorem eX1_beginOn_13 : decode cX1_beginOn 13 = .ok (.ifCond .eq 6, 3) ∧ ((13 : Nat) : Int) + 6 = ((19 : Nat) : Int) ∧ 13 + 3 = 16 := ⟨by decide +kernel, by decide, rfl⟩
theorem eX1_beginOn_16 : decode cX1_beginOn 16 = .ok (.bipush (-9), 2) ∧ 16 + 2 = 18 := ⟨by decide +kernel, rfl⟩
theorem eX1_beginOn_18 : decode cX1_beginOn 18 = .ok (.ireturn, 1) := by decide +kernel
theorem eX1_beginOn_19 : decode cX1_beginOn 19 = .ok (.aload_n 0, 1) ∧ 19 + 1 = 20 := ⟨by decide +kernel, rfl⟩
theorem eX1_beginOn_20 : decode cX1_beginOn 20 = .ok (.iload_n 2, 1) ∧ 20 + 1 = 21 := ⟨by decide +kernel, rfl⟩
theorem eX1_beginOn_21 : decode cX1_beginOn 21 = .ok (.aload_n 1, 1) ∧ 21 + 1 = 22 := ⟨by decide +kernel, rfl⟩
theorem eX1_beginOn_22 : decode cX1_beginOn 22 = .ok (.getfield 55, 3) ∧ 22 + 3 = 25 := ⟨by decide +kernel, rfl⟩
theorem eX1_beginOn_25 : decode cX1_beginOn 25 = .ok (.aload_n 1, 1) ∧ 25 + 1 = 26 := ⟨by decide +kernel, rfl⟩
theorem eX1_beginOn_26 : decode cX1_beginOn 26 = .ok (.aload_n 1, 1) ∧ 26 + 1 = 27 := ⟨by decide +kernel, rfl⟩
theorem eX1_beginOn_27 : decode cX1_beginOn 27 = .ok (.getfield 58, 3) ∧ 27 + 3 = 30 := ⟨by decide +kernel, rfl⟩
theorem eX1_beginOn_30 : decode cX1_beginOn 30 = .ok (.aload_n 0, 1) ∧ 30 + 1 = 31 := ⟨by decide +kernel, rfl⟩
theorem eX1_beginOn_31 : decode cX1_beginOn 31 = .ok (.iload_n 2, 1) ∧ 31 + 1 = 32 := ⟨by decide +kernel, rfl⟩
theorem eX1_beginOn_32 : decode cX1_beginOn 32 = .ok (.iconst 0, 1) ∧ 32 + 1 = 33 := ⟨by decide +kernel, rfl⟩
theorem eX1_beginOn_33 : decode cX1_beginOn 33 = .ok (.invokevirtual 34, 3) ∧ 33 + 3 = 36 := ⟨by decide +kernel, rfl⟩
theorem eX1_beginOn_36 : decode cX1_beginOn 36 = .ok (.invokevirtual 61, 3) ∧ 36 + 3 = 39 := ⟨by decide +kernel, rfl⟩
theorem eX1_beginOn_39 : decode cX1_beginOn 39 = .ok (.invokevirtual 64, 3) ∧ 39 + 3 = 42 := ⟨by decide +kernel, rfl⟩
theorem eX1_beginOn_42 : decode cX1_beginOn 42 = .ok (.ireturn, 1) := by decide +kernel
theorem eX1_celebrate_0 : decode cX1_celebrate 0 = .ok (.aload_n 0, 1) ∧ 0 + 1 = 1 := ⟨by decide +kernel, rfl⟩
theorem eX1_celebrate_1 : decode cX1_celebrate 1 = .ok (.aload_n 1, 1) ∧ 1 + 1 = 2 := ⟨by decide +kernel, rfl⟩
theorem eX1_celebrate_2 : decode cX1_celebrate 2 = .ok (.iload_n 2, 1) ∧ 2 + 1 = 3 := ⟨by decide +kernel, rfl⟩
theorem eX1_celebrate_3 : decode cX1_celebrate 3 = .ok (.invokevirtual 68, 3) ∧ 3 + 3 = 6 := ⟨by decide +kernel, rfl⟩
theorem eX1_celebrate_6 : decode cX1_celebrate 6 = .ok (.istore_n 3, 1) ∧ 6 + 1 = 7 := ⟨by decide +kernel, rfl⟩
theorem eX1_celebrate_7 : decode cX1_celebrate 7 = .ok (.iload_n 3, 1) ∧ 7 + 1 = 8 := ⟨by decide +kernel, rfl⟩
theorem eX1_celebrate_8 : decode cX1_celebrate 8 = .ok (.bipush (-9), 2) ∧ 8 + 2 = 10 := ⟨by decide +kernel, rfl⟩
theorem eX1_celebrate_10 : decode cX1_celebrate 10 = .ok (.if_icmp .ne 5, 3) ∧ ((10 : Nat) : Int) + 5 = ((15 : Nat) : Int) ∧ 10 + 3 = 13 := ⟨by decide +kernel, by decide, rfl⟩
theorem eX1_celebrate_13 : decode cX1_celebrate 13 = .ok (.iconst 0, 1) ∧ 13 + 1 = 14 := ⟨by decide +kernel, rfl⟩
theorem eX1_celebrate_14 : decode cX1_celebrate 14 = .ok (.ireturn, 1) := by decide +kernel
theorem eX1_celebrate_15 : decode cX1_celebrate 15 = .ok (.aload_n 1, 1) ∧ 15 + 1 = 16 := ⟨by decide +kernel, rfl⟩
theorem eX1_celebrate_16 : decode cX1_celebrate 16 = .ok (.aload_n 0, 1) ∧ 16 + 1 = 17 := ⟨by decide +kernel, rfl⟩
theorem eX1_celebrate_17 : decode cX1_celebrate 17 = .ok (.iload_n 2, 1) ∧ 17 + 1 = 18 := ⟨by decide +kernel, rfl⟩
theorem eX1_celebrate_18 : decode cX1_celebrate 18 = .ok (.iload_n 3, 1) ∧ 18 + 1 = 19 := ⟨by decide +kernel, rfl⟩
theorem eX1_celebrate_19 : decode cX1_celebrate 19 = .ok (.invokevirtual 72, 3) ∧ 19 + 3 = 22 := ⟨by decide +kernel, rfl⟩
theorem eX1_celebrate_22 : decode cX1_celebrate 22 = .ok (.putfield 55, 3) ∧ 22 + 3 = 25 := ⟨by decide +kernel, rfl⟩
theorem eX1_celebrate_25 : decode cX1_celebrate 25 = .ok (.aload_n 1, 1) ∧ 25 + 1 = 26 := ⟨by decide +kernel, rfl⟩
theorem eX1_celebrate_26 : decode cX1_celebrate 26 = .ok (.aload_n 0, 1) ∧ 26 + 1 = 27 := ⟨by decide +kernel, rfl⟩
theorem eX1_celebrate_27 : decode cX1_celebrate 27 = .ok (.iload_n 2, 1) ∧ 27 + 1 = 28 := ⟨by decide +kernel, rfl⟩
theorem eX1_celebrate_28 : decode cX1_celebrate 28 = .ok (.iconst 0, 1) ∧ 28 + 1 = 29 := ⟨by decide +kernel, rfl⟩
theorem eX1_celebrate_29 : decode cX1_celebrate 29 = .ok (.invokevirtual 34, 3) ∧ 29 + 3 = 32 := ⟨by decide +kernel, rfl⟩
theorem eX1_celebrate_32 : decode cX1_celebrate 32 = .ok (.putfield 58, 3) ∧ 32 + 3 = 35 := ⟨by decide +kernel, rfl⟩
theorem eX1_celebrate_35 : decode cX1_celebrate 35 = .ok (.aload_n 1, 1) ∧ 35 + 1 = 36 := ⟨by decide +kernel, rfl⟩
theorem eX1_celebrate_36 : decode cX1_celebrate 36 = .ok (.dup, 1) ∧ 36 + 1 = 37 := ⟨by decide +kernel, rfl⟩
theorem eX1_celebrate_37 : decode cX1_celebrate 37 = .ok (.getfield 75, 3) ∧ 37 + 3 = 40 := ⟨by decide +kernel, rfl⟩
theorem eX1_celebrate_40 : decode cX1_celebrate 40 = .ok (.iconst 1, 1) ∧ 40 + 1 = 41 := ⟨by decide +kernel, rfl⟩
theorem eX1_celebrate_41 : decode cX1_celebrate 41 = .ok (.iload_n 2, 1) ∧ 41 + 1 = 42 := ⟨by decide +kernel, rfl⟩
theorem eX1_celebrate_42 : decode cX1_celebrate 42 = .ok (.ishl, 1) ∧ 42 + 1 = 43 := ⟨by decide +kernel, rfl⟩
theorem eX1_celebrate_43 : decode cX1_celebrate 43 = .ok (.ior, 1) ∧ 43 + 1 = 44 := ⟨by decide +kernel, rfl⟩
theorem eX1_celebrate_44 : decode cX1_celebrate 44 = .ok (.putfield 75, 3) ∧ 44 + 3 = 47 := ⟨by decide +kernel, rfl⟩
theorem eX1_celebrate_47 : decode cX1_celebrate 47 = .ok (.iconst 1, 1) ∧ 47 + 1 = 48 := ⟨by decide +kernel, rfl⟩
theorem eX1_celebrate_48 : decode cX1_celebrate 48 = .ok (.ireturn, 1) := by decide +kernel
theorem eX2_init_0 : decode cX2_init 0 = .ok (.aload_n 0, 1) ∧ 0 + 1 = 1 := ⟨by decide +kernel, rfl⟩
theorem eX2_init_1 : decode cX2_init 1 = .ok (.invokespecial 3, 3) ∧ 1 + 3 = 4 := ⟨by decide +kernel, rfl⟩
theorem eX2_init_4 : decode cX2_init 4 = .ok (.aload_n 0, 1) ∧ 4 + 1 = 5 := ⟨by decide +kernel, rfl⟩
theorem eX2_init_5 : decode cX2_init 5 = .ok (.new 9, 3) ∧ 5 + 3 = 8 := ⟨by decide +kernel, rfl⟩
theorem eX2_init_8 : decode cX2_init 8 = .ok (.dup, 1) ∧ 8 + 1 = 9 := ⟨by decide +kernel, rfl⟩
theorem eX2_init_9 : decode cX2_init 9 = .ok (.invokespecial 11, 3) ∧ 9 + 3 = 12 := ⟨by decide +kernel, rfl⟩
theorem eX2_init_12 : decode cX2_init 12 = .ok (.putfield 12, 3) ∧ 12 + 3 = 15 := ⟨by decide +kernel, rfl⟩
theorem eX2_init_15 : decode cX2_init 15 = .ok (.aload_n 0, 1) ∧ 15 + 1 = 16 := ⟨by decide +kernel, rfl⟩
theorem eX2_init_16 : decode cX2_init 16 = .ok (.bipush 7, 2) ∧ 16 + 2 = 18 := ⟨by decide +kernel, rfl⟩
theorem eX2_init_18 : decode cX2_init 18 = .ok (.newarray .int, 2) ∧ 18 + 2 = 20 := ⟨by decide +kernel, rfl⟩
theorem eX2_init_20 : decode cX2_init 20 = .ok (.putfield 18, 3) ∧ 20 + 3 = 23 := ⟨by decide +kernel, rfl⟩
theorem eX2_init_23 : decode cX2_init 23 = .ok (.aload_n 0, 1) ∧ 23 + 1 = 24 := ⟨by decide +kernel, rfl⟩
theorem eX2_init_24 : decode cX2_init 24 = .ok (.bipush 64, 2) ∧ 24 + 2 = 26 := ⟨by decide +kernel, rfl⟩
theorem eX2_init_26 : decode cX2_init 26 = .ok (.newarray .int, 2) ∧ 26 + 2 = 28 := ⟨by decide +kernel, rfl⟩
theorem eX2_init_28 : decode cX2_init 28 = .ok (.putfield 22, 3) ∧ 28 + 3 = 31 := ⟨by decide +kernel, rfl⟩
theorem eX2_init_31 : decode cX2_init 31 = .ok (.aload_n 0, 1) ∧ 31 + 1 = 32 := ⟨by decide +kernel, rfl⟩
theorem eX2_init_32 : decode cX2_init 32 = .ok (.bipush 6, 2) ∧ 32 + 2 = 34 := ⟨by decide +kernel, rfl⟩
theorem eX2_init_34 : decode cX2_init 34 = .ok (.putfield 25, 3) ∧ 34 + 3 = 37 := ⟨by decide +kernel, rfl⟩
theorem eX2_init_37 : decode cX2_init 37 = .ok (.aload_n 0, 1) ∧ 37 + 1 = 38 := ⟨by decide +kernel, rfl⟩
theorem eX2_init_38 : decode cX2_init 38 = .ok (.iconst 0, 1) ∧ 38 + 1 = 39 := ⟨by decide +kernel, rfl⟩
theorem eX2_init_39 : decode cX2_init 39 = .ok (.putfield 29, 3) ∧ 39 + 3 = 42 := ⟨by decide +kernel, rfl⟩
theorem eX2_init_42 : decode cX2_init 42 = .ok (.aload_n 0, 1) ∧ 42 + 1 = 43 := ⟨by decide +kernel, rfl⟩
theorem eX2_init_43 : decode cX2_init 43 = .ok (.iconst 0, 1) ∧ 43 + 1 = 44 := ⟨by decide +kernel, rfl⟩
theorem eX2_init_44 : decode cX2_init 44 = .ok (.putfield 32, 3) ∧ 44 + 3 = 47 := ⟨by decide +kernel, rfl⟩
theorem eX2_init_47 : decode cX2_init 47 = .ok (.aload_n 0, 1) ∧ 47 + 1 = 48 := ⟨by decide +kernel, rfl⟩
theorem eX2_init_48 : decode cX2_init 48 = .ok (.iconst 0, 1) ∧ 48 + 1 = 49 := ⟨by decide +kernel, rfl⟩
theorem eX2_init_49 : decode cX2_init 49 = .ok (.putfield 35, 3) ∧ 49 + 3 = 52 := ⟨by decide +kernel, rfl⟩
theorem eX2_init_52 : decode cX2_init 52 = .ok (.aload_n 0, 1) ∧ 52 + 1 = 53 := ⟨by decide +kernel, rfl⟩
theorem eX2_init_53 : decode cX2_init 53 = .ok (.iconst 0, 1) ∧ 53 + 1 = 54 := ⟨by decide +kernel, rfl⟩
theorem eX2_init_54 : decode cX2_init 54 = .ok (.putfield 38, 3) ∧ 54 + 3 = 57 := ⟨by decide +kernel, rfl⟩
theorem eX2_init_57 : decode cX2_init 57 = .ok (.aload_n 0, 1) ∧ 57 + 1 = 58 := ⟨by decide +kernel, rfl⟩
theorem eX2_init_58 : decode cX2_init 58 = .ok (.iconst 0, 1) ∧ 58 + 1 = 59 := ⟨by decide +kernel, rfl⟩
theorem eX2_init_59 : decode cX2_init 59 = .ok (.putfield 41, 3) ∧ 59 + 3 = 62 := ⟨by decide +kernel, rfl⟩
theorem eX2_init_62 : decode cX2_init 62 = .ok (.aload_n 0, 1) ∧ 62 + 1 = 63 := ⟨by decide +kernel, rfl⟩
theorem eX2_init_63 : decode cX2_init 63 = .ok (.iconst 0, 1) ∧ 63 + 1 = 64 := ⟨by decide +kernel, rfl⟩
theorem eX2_init_64 : decode cX2_init 64 = .ok (.putfield 44, 3) ∧ 64 + 3 = 67 := ⟨by decide +kernel, rfl⟩
theorem eX2_init_67 : decode cX2_init 67 = .ok (.return_, 1) := by decide +kernel
theorem eX2_runFrom_0 : decode cX2_runFrom 0 = .ok (.aload_n 0, 1) ∧ 0 + 1 = 1 := ⟨by decide +kernel, rfl⟩
theorem eX2_runFrom_1 : decode cX2_runFrom 1 = .ok (.aload_n 2, 1) ∧ 1 + 1 = 2 := ⟨by decide +kernel, rfl⟩
theorem eX2_runFrom_2 : decode cX2_runFrom 2 = .ok (.bipush 6, 2) ∧ 2 + 2 = 4 := ⟨by decide +kernel, rfl⟩
theorem eX2_runFrom_4 : decode cX2_runFrom 4 = .ok (.invokevirtual 47, 3) ∧ 4 + 3 = 7 := ⟨by decide +kernel, rfl⟩
theorem eX2_runFrom_7 : decode cX2_runFrom 7 = .ok (.aload_n 0, 1) ∧ 7 + 1 = 8 := ⟨by decide +kernel, rfl⟩
theorem eX2_runFrom_8 : decode cX2_runFrom 8 = .ok (.aload_n 1, 1) ∧ 8 + 1 = 9 := ⟨by decide +kernel, rfl⟩
theorem eX2_runFrom_9 : decode cX2_runFrom 9 = .ok (.invokevirtual 51, 3) ∧ 9 + 3 = 12 := ⟨by decide +kernel, rfl⟩
theorem eX2_runFrom_12 : decode cX2_runFrom 12 = .ok (.return_, 1) := by decide +kernel
theorem eX2_reset_0 : decode cX2_reset 0 = .ok (.aload_n 0, 1) ∧ 0 + 1 = 1 := ⟨by decide +kernel, rfl⟩
theorem eX2_reset_1 : decode cX2_reset 1 = .ok (.getfield 12, 3) ∧ 1 + 3 = 4 := ⟨by decide +kernel, rfl⟩
theorem eX2_reset_4 : decode cX2_reset 4 = .ok (.aload_n 1, 1) ∧ 4 + 1 = 5 := ⟨by decide +kernel, rfl⟩
theorem eX2_reset_5 : decode cX2_reset 5 = .ok (.invokevirtual 55, 3) ∧ 5 + 3 = 8 := ⟨by decide +kernel, rfl⟩
theorem eX2_reset_8 : decode cX2_reset 8 = .ok (.aload_n 0, 1) ∧ 8 + 1 = 9 := ⟨by decide +kernel, rfl⟩
theorem eX2_reset_9 : decode cX2_reset 9 = .ok (.iload_n 2, 1) ∧ 9 + 1 = 10 := ⟨by decide +kernel, rfl⟩
theorem eX2_reset_10 : decode cX2_reset 10 = .ok (.putfield 25, 3) ∧ 10 + 3 = 13 := ⟨by decide +kernel, rfl⟩
theorem eX2_reset_13 : decode cX2_reset 13 = .ok (.aload_n 0, 1) ∧ 13 + 1 = 14 := ⟨by decide +kernel, rfl⟩
theorem eX2_reset_14 : decode cX2_reset 14 = .ok (.iconst 0, 1) ∧ 14 + 1 = 15 := ⟨by decide +kernel, rfl⟩
theorem eX2_reset_15 : decode cX2_reset 15 = .ok (.putfield 29, 3) ∧ 15 + 3 = 18 := ⟨by decide +kernel, rfl⟩
theorem eX2_reset_18 : decode cX2_reset 18 = .ok (.aload_n 0, 1) ∧ 18 + 1 = 19 := ⟨by decide +kernel, rfl⟩
theorem eX2_reset_19 : decode cX2_reset 19 = .ok (.iconst 0, 1) ∧ 19 + 1 = 20 := ⟨by decide +kernel, rfl⟩
theorem eX2_reset_20 : decode cX2_reset 20 = .ok (.putfield 32, 3) ∧ 20 + 3 = 23 := ⟨by decide +kernel, rfl⟩
theorem eX2_reset_23 : decode cX2_reset 23 = .ok (.aload_n 0, 1) ∧ 23 + 1 = 24 := ⟨by decide +kernel, rfl⟩
theorem eX2_reset_24 : decode cX2_reset 24 = .ok (.aload_n 0, 1) ∧ 24 + 1 = 25 := ⟨by decide +kernel, rfl⟩
theorem eX2_reset_25 : decode cX2_reset 25 = .ok (.getfield 12, 3) ∧ 25 + 3 = 28 := ⟨by decide +kernel, rfl⟩
theorem eX2_reset_28 : decode cX2_reset 28 = .ok (.getfield 59, 3) ∧ 28 + 3 = 31 := ⟨by decide +kernel, rfl⟩
theorem eX2_reset_31 : decode cX2_reset 31 = .ok (.putfield 35, 3) ∧ 31 + 3 = 34 := ⟨by decide +kernel, rfl⟩
theorem eX2_reset_34 : decode cX2_reset 34 = .ok (.aload_n 0, 1) ∧ 34 + 1 = 35 := ⟨by decide +kernel, rfl⟩
theorem eX2_reset_35 : decode cX2_reset 35 = .ok (.iconst 0, 1) ∧ 35 + 1 = 36 := ⟨by decide +kernel, rfl⟩
theorem eX2_reset_36 : decode cX2_reset 36 = .ok (.putfield 38, 3) ∧ 36 + 3 = 39 := ⟨by decide +kernel, rfl⟩
theorem eX2_reset_39 : decode cX2_reset 39 = .ok (.aload_n 0, 1) ∧ 39 + 1 = 40 := ⟨by decide +kernel, rfl⟩
theorem eX2_reset_40 : decode cX2_reset 40 = .ok (.bipush 63, 2) ∧ 40 + 2 = 42 := ⟨by decide +kernel, rfl⟩
theorem eX2_reset_42 : decode cX2_reset 42 = .ok (.putfield 41, 3) ∧ 42 + 3 = 45 := ⟨by decide +kernel, rfl⟩
theorem eX2_reset_45 : decode cX2_reset 45 = .ok (.aload_n 0, 1) ∧ 45 + 1 = 46 := ⟨by decide +kernel, rfl⟩
theorem eX2_reset_46 : decode cX2_reset 46 = .ok (.iconst 0, 1) ∧ 46 + 1 = 47 := ⟨by decide +kernel, rfl⟩
theorem eX2_reset_47 : decode cX2_reset 47 = .ok (.putfield 44, 3) ∧ 47 + 3 = 50 := ⟨by decide +kernel, rfl⟩
theorem eX2_reset_50 : decode cX2_reset 50 = .ok (.iconst 0, 1) ∧ 50 + 1 = 51 := ⟨by decide +kernel, rfl⟩
theorem eX2_reset_51 : decode cX2_reset 51 = .ok (.istore_n 3, 1) ∧ 51 + 1 = 52 := ⟨by decide +kernel, rfl⟩
theorem eX2_reset_52 : decode cX2_reset 52 = .ok (.iload_n 3, 1) ∧ 52 + 1 = 53 := ⟨by decide +kernel, rfl⟩
theorem eX2_reset_53 : decode cX2_reset 53 = .ok (.aload_n 0, 1) ∧ 53 + 1 = 54 := ⟨by decide +kernel, rfl⟩
theorem eX2_reset_54 : decode cX2_reset 54 = .ok (.getfield 18, 3) ∧ 54 + 3 = 57 := ⟨by decide +kernel, rfl⟩
theorem eX2_reset_57 : decode cX2_reset 57 = .ok (.arraylength, 1) ∧ 57 + 1 = 58 := ⟨by decide +kernel, rfl⟩
theorem eX2_reset_58 : decode cX2_reset 58 = .ok (.if_icmp .ge 17, 3) ∧ ((58 : Nat) : Int) + 17 = ((75 : Nat) : Int) ∧ 58 + 3 = 61 := ⟨by decide +kernel, by decide, rfl⟩
theorem eX2_reset_61 : decode cX2_reset 61 = .ok (.aload_n 0, 1) ∧ 61 + 1 = 62 := ⟨by decide +kernel, rfl⟩
theorem eX2_reset_62 : decode cX2_reset 62 = .ok (.getfield 18, 3) ∧ 62 + 3 = 65 := ⟨by decide +kernel, rfl⟩
theorem eX2_reset_65 : decode cX2_reset 65 = .ok (.iload_n 3, 1) ∧ 65 + 1 = 66 := ⟨by decide +kernel, rfl⟩
theorem eX2_reset_66 : decode cX2_reset 66 = .ok (.bipush 63, 2) ∧ 66 + 2 = 68 := ⟨by decide +kernel, rfl⟩
theorem eX2_reset_68 : decode cX2_reset 68 = .ok (.iastore, 1) ∧ 68 + 1 = 69 := ⟨by decide +kernel, rfl⟩
theorem eX2_reset_69 : decode cX2_reset 69 = .ok (.iinc 3 1, 3) ∧ 69 + 3 = 72 := ⟨by decide +kernel, rfl⟩
theorem eX2_reset_72 : decode cX2_reset 72 = .ok (.goto (-20), 3) ∧ ((72 : Nat) : Int) + (-20) = ((52 : Nat) : Int) := ⟨by decide +kernel, by decide⟩
theorem eX2_reset_75 : decode cX2_reset 75 = .ok (.iconst 0, 1) ∧ 75 + 1 = 76 := ⟨by decide +kernel, rfl⟩
theorem eX2_reset_76 : decode cX2_reset 76 = .ok (.istore_n 3, 1) ∧ 76 + 1 = 77 := ⟨by decide +kernel, rfl⟩
theorem eX2_reset_77 : decode cX2_reset 77 = .ok (.iload_n 3, 1) ∧ 77 + 1 = 78 := ⟨by decide +kernel, rfl⟩
theorem eX2_reset_78 : decode cX2_reset 78 = .ok (.aload_n 0, 1) ∧ 78 + 1 = 79 := ⟨by decide +kernel, rfl⟩
theorem eX2_reset_79 : decode cX2_reset 79 = .ok (.getfield 22, 3) ∧ 79 + 3 = 82 := ⟨by decide +kernel, rfl⟩
theorem eX2_reset_82 : decode cX2_reset 82 = .ok (.arraylength, 1) ∧ 82 + 1 = 83 := ⟨by decide +kernel, rfl⟩
theorem eX2_reset_83 : decode cX2_reset 83 = .ok (.if_icmp .ge 16, 3) ∧ ((83 : Nat) : Int) + 16 = ((99 : Nat) : Int) ∧ 83 + 3 = 86 := ⟨by decide +kernel, by decide, rfl⟩
theorem eX2_reset_86 : decode cX2_reset 86 = .ok (.aload_n 0, 1) ∧ 86 + 1 = 87 := ⟨by decide +kernel, rfl⟩
theorem eX2_reset_87 : decode cX2_reset 87 = .ok (.getfield 22, 3) ∧ 87 + 3 = 90 := ⟨by decide +kernel, rfl⟩
theorem eX2_reset_90 : decode cX2_reset 90 = .ok (.iload_n 3, 1) ∧ 90 + 1 = 91 := ⟨by decide +kernel, rfl⟩
theorem eX2_reset_91 : decode cX2_reset 91 = .ok (.iconst 0, 1) ∧ 91 + 1 = 92 := ⟨by decide +kernel, rfl⟩
theorem eX2_reset_92 : decode cX2_reset 92 = .ok (.iastore, 1) ∧ 92 + 1 = 93 := ⟨by decide +kernel, rfl⟩
theorem eX2_reset_93 : decode cX2_reset 93 = .ok (.iinc 3 1, 3) ∧ 93 + 3 = 96 := ⟨by decide +kernel, rfl⟩
theorem eX2_reset_96 : decode cX2_reset 96 = .ok (.goto (-19), 3) ∧ ((96 : Nat) : Int) + (-19) = ((77 : Nat) : Int) := ⟨by decide +kernel, by decide⟩
theorem eX2_reset_99 : decode cX2_reset 99 = .ok (.return_, 1) := by decide +kernel
theorem eX2_allowOnly_0 : decode cX2_allowOnly 0 = .ok (.iload_n 1, 1) ∧ 0 + 1 = 1 := ⟨by decide +kernel, rfl⟩
theorem eX2_allowOnly_1 : decode cX2_allowOnly 1 = .ok (.ifCond .lt 24, 3) ∧ ((1 : Nat) : Int) + 24 = ((25 : Nat) : Int) ∧ 1 + 3 = 4 := ⟨by decide +kernel, by decide, rfl⟩
theorem eX2_allowOnly_4 : decode cX2_allowOnly 4 = .ok (.iload_n 1, 1) ∧ 4 + 1 = 5 := ⟨by decide +kernel, rfl⟩
theorem eX2_allowOnly_5 : decode cX2_allowOnly 5 = .ok (.aload_n 0, 1) ∧ 5 + 1 = 6 := ⟨by decide +kernel, rfl⟩
theorem eX2_allowOnly_6 : decode cX2_allowOnly 6 = .ok (.getfield 18, 3) ∧ 6 + 3 = 9 := ⟨by decide +kernel, rfl⟩
theorem eX2_allowOnly_9 : decode cX2_allowOnly 9 = .ok (.arraylength, 1) ∧ 9 + 1 = 10 := ⟨by decide +kernel, rfl⟩
theorem eX2_allowOnly_10 : decode cX2_allowOnly 10 = .ok (.if_icmp .ge 15, 3) ∧ ((10 : Nat) : Int) + 15 = ((25 : Nat) : Int) ∧ 10 + 3 = 13 := ⟨by decide +kernel, by decide, rfl⟩
theorem eX2_allowOnly_13 : decode cX2_allowOnly 13 = .ok (.aload_n 0, 1) ∧ 13 + 1 = 14 := ⟨by decide +kernel, rfl⟩
theorem eX2_allowOnly_14 : decode cX2_allowOnly 14 = .ok (.getfield 18, 3) ∧ 14 + 3 = 17 := ⟨by decide +kernel, rfl⟩
theorem eX2_allowOnly_17 : decode cX2_allowOnly 17 = .ok (.iload_n 1, 1) ∧ 17 + 1 = 18 := ⟨by decide +kernel, rfl⟩
theorem eX2_allowOnly_18 : decode cX2_allowOnly 18 = .ok (.dup2, 1) ∧ 18 + 1 = 19 := ⟨by decide +kernel, rfl⟩
theorem eX2_allowOnly_19 : decode cX2_allowOnly 19 = .ok (.iaload, 1) ∧ 19 + 1 = 20 := ⟨by decide +kernel, rfl⟩
theorem eX2_allowOnly_20 : decode cX2_allowOnly 20 = .ok (.iconst 1, 1) ∧ 20 + 1 = 21 := ⟨by decide +kernel, rfl⟩
theorem eX2_allowOnly_21 : decode cX2_allowOnly 21 = .ok (.iload_n 2, 1) ∧ 21 + 1 = 22 := ⟨by decide +kernel, rfl⟩
theorem eX2_allowOnly_22 : decode cX2_allowOnly 22 = .ok (.ishl, 1) ∧ 22 + 1 = 23 := ⟨by decide +kernel, rfl⟩
theorem eX2_allowOnly_23 : decode cX2_allowOnly 23 = .ok (.iand, 1) ∧ 23 + 1 = 24 := ⟨by decide +kernel, rfl⟩
theorem eX2_allowOnly_24 : decode cX2_allowOnly 24 = .ok (.iastore, 1) ∧ 24 + 1 = 25 := ⟨by decide +kernel, rfl⟩
theorem eX2_allowOnly_25 : decode cX2_allowOnly 25 = .ok (.return_, 1) := by decide +kernel
theorem eX2_run_0 : decode cX2_run 0 = .ok (.aload_n 0, 1) ∧ 0 + 1 = 1 := ⟨by decide +kernel, rfl⟩
theorem eX2_run_1 : decode cX2_run 1 = .ok (.iconst 0, 1) ∧ 1 + 1 = 2 := ⟨by decide +kernel, rfl⟩
theorem eX2_run_2 : decode cX2_run 2 = .ok (.aload_n 0, 1) ∧ 2 + 1 = 3 := ⟨by decide +kernel, rfl⟩
theorem eX2_run_3 : decode cX2_run 3 = .ok (.getfield 12, 3) ∧ 3 + 3 = 6 := ⟨by decide +kernel, rfl⟩
theorem eX2_run_6 : decode cX2_run 6 = .ok (.getfield 62, 3) ∧ 6 + 3 = 9 := ⟨by decide +kernel, rfl⟩
theorem eX2_run_9 : decode cX2_run 9 = .ok (.invokevirtual 65, 3) ∧ 9 + 3 = 12 := ⟨by decide +kernel, rfl⟩
theorem eX2_run_12 : decode cX2_run 12 = .ok (.ifCond .eq 25, 3) ∧ ((12 : Nat) : Int) + 25 = ((37 : Nat) : Int) ∧ 12 + 3 = 15 := ⟨by decide +kernel, by decide, rfl⟩
theorem eX2_run_15 : decode cX2_run 15 = .ok (.aload_n 0, 1) ∧ 15 + 1 = 16 := ⟨by decide +kernel, rfl⟩
theorem eX2_run_16 : decode cX2_run 16 = .ok (.aload_n 1, 1) ∧ 16 + 1 = 17 := ⟨by decide +kernel, rfl⟩
theorem eX2_run_17 : decode cX2_run 17 = .ok (.iconst 0, 1) ∧ 17 + 1 = 18 := ⟨by decide +kernel, rfl⟩
theorem eX2_run_18 : decode cX2_run 18 = .ok (.aload_n 0, 1) ∧ 18 + 1 = 19 := ⟨by decide +kernel, rfl⟩
theorem eX2_run_19 : decode cX2_run 19 = .ok (.getfield 12, 3) ∧ 19 + 3 = 22 := ⟨by decide +kernel, rfl⟩
theorem eX2_run_22 : decode cX2_run 22 = .ok (.getfield 62, 3) ∧ 22 + 3 = 25 := ⟨by decide +kernel, rfl⟩
theorem eX2_run_25 : decode cX2_run 25 = .ok (.aload_n 0, 1) ∧ 25 + 1 = 26 := ⟨by decide +kernel, rfl⟩
theorem eX2_run_26 : decode cX2_run 26 = .ok (.getfield 12, 3) ∧ 26 + 3 = 29 := ⟨by decide +kernel, rfl⟩
theorem eX2_run_29 : decode cX2_run 29 = .ok (.getfield 59, 3) ∧ 29 + 3 = 32 := ⟨by decide +kernel, rfl⟩
theorem eX2_run_32 : decode cX2_run 32 = .ok (.iconst 0, 1) ∧ 32 + 1 = 33 := ⟨by decide +kernel, rfl⟩
theorem eX2_run_33 : decode cX2_run 33 = .ok (.iconst 0, 1) ∧ 33 + 1 = 34 := ⟨by decide +kernel, rfl⟩
theorem eX2_run_34 : decode cX2_run 34 = .ok (.invokestatic 69, 3) ∧ 34 + 3 = 37 := ⟨by decide +kernel, rfl⟩
theorem eX2_run_37 : decode cX2_run 37 = .ok (.return_, 1) := by decide +kernel
theorem eX2_allows_0 : decode cX2_allows 0 = .ok (.aload_n 0, 1) ∧ 0 + 1 = 1 := ⟨by decide +kernel, rfl⟩
theorem eX2_allows_1 : decode cX2_allows 1 = .ok (.getfield 18, 3) ∧ 1 + 3 = 4 := ⟨by decide +kernel, rfl⟩
theorem eX2_allows_4 : decode cX2_allows 4 = .ok (.iload_n 1, 1) ∧ 4 + 1 = 5 := ⟨by decide +kernel, rfl⟩
theorem eX2_allows_5 : decode cX2_allows 5 = .ok (.invokestatic 73, 3) ∧ 5 + 3 = 8 := ⟨by decide +kernel, rfl⟩
theorem eX2_allows_8 : decode cX2_allows 8 = .ok (.iload_n 2, 1) ∧ 8 + 1 = 9 := ⟨by decide +kernel, rfl⟩
theorem eX2_allows_9 : decode cX2_allows 9 = .ok (.ishr, 1) ∧ 9 + 1 = 10 := ⟨by decide +kernel, rfl⟩
theorem eX2_allows_10 : decode cX2_allows 10 = .ok (.iconst 1, 1) ∧ 10 + 1 = 11 := ⟨by decide +kernel, rfl⟩
theorem eX2_allows_11 : decode cX2_allows 11 = .ok (.iand, 1) ∧ 11 + 1 = 12 := ⟨by decide +kernel, rfl⟩
theorem eX2_allows_12 : decode cX2_allows 12 = .ok (.ifCond .eq 7, 3) ∧ ((12 : Nat) : Int) + 7 = ((19 : Nat) : Int) ∧ 12 + 3 = 15 := ⟨by decide +kernel, by decide, rfl⟩
theorem eX2_allows_15 : decode cX2_allows 15 = .ok (.iconst 1, 1) ∧ 15 + 1 = 16 := ⟨by decide +kernel, rfl⟩
theorem eX2_allows_16 : decode cX2_allows 16 = .ok (.goto 4, 3) ∧ ((16 : Nat) : Int) + 4 = ((20 : Nat) : Int) := ⟨by decide +kernel, by decide⟩
theorem eX2_allows_19 : decode cX2_allows 19 = .ok (.iconst 0, 1) ∧ 19 + 1 = 20 := ⟨by decide +kernel, rfl⟩
theorem eX2_allows_20 : decode cX2_allows 20 = .ok (.ireturn, 1) := by decide +kernel
theorem eX2_record_0 : decode cX2_record 0 = .ok (.iload_n 1, 1) ∧ 0 + 1 = 1 := ⟨by decide +kernel, rfl⟩
theorem eX2_record_1 : decode cX2_record 1 = .ok (.aload_n 0, 1) ∧ 1 + 1 = 2 := ⟨by decide +kernel, rfl⟩
theorem eX2_record_2 : decode cX2_record 2 = .ok (.getfield 29, 3) ∧ 2 + 3 = 5 := ⟨by decide +kernel, rfl⟩
theorem eX2_record_5 : decode cX2_record 5 = .ok (.if_icmp .le 22, 3) ∧ ((5 : Nat) : Int) + 22 = ((27 : Nat) : Int) ∧ 5 + 3 = 8 := ⟨by decide +kernel, by decide, rfl⟩
theorem eX2_record_8 : decode cX2_record 8 = .ok (.aload_n 0, 1) ∧ 8 + 1 = 9 := ⟨by decide +kernel, rfl⟩
theorem eX2_record_9 : decode cX2_record 9 = .ok (.iload_n 1, 1) ∧ 9 + 1 = 10 := ⟨by decide +kernel, rfl⟩
theorem eX2_record_10 : decode cX2_record 10 = .ok (.putfield 29, 3) ∧ 10 + 3 = 13 := ⟨by decide +kernel, rfl⟩
theorem eX2_record_13 : decode cX2_record 13 = .ok (.aload_n 0, 1) ∧ 13 + 1 = 14 := ⟨by decide +kernel, rfl⟩
theorem eX2_record_14 : decode cX2_record 14 = .ok (.iload 4, 2) ∧ 14 + 2 = 16 := ⟨by decide +kernel, rfl⟩
theorem eX2_record_16 : decode cX2_record 16 = .ok (.putfield 32, 3) ∧ 16 + 3 = 19 := ⟨by decide +kernel, rfl⟩
theorem eX2_record_19 : decode cX2_record 19 = .ok (.aload_n 0, 1) ∧ 19 + 1 = 20 := ⟨by decide +kernel, rfl⟩
theorem eX2_record_20 : decode cX2_record 20 = .ok (.iload_n 2, 1) ∧ 20 + 1 = 21 := ⟨by decide +kernel, rfl⟩
theorem eX2_record_21 : decode cX2_record 21 = .ok (.putfield 35, 3) ∧ 21 + 3 = 24 := ⟨by decide +kernel, rfl⟩
theorem eX2_record_24 : decode cX2_record 24 = .ok (.goto 23, 3) ∧ ((24 : Nat) : Int) + 23 = ((47 : Nat) : Int) := ⟨by decide +kernel, by decide⟩
theorem eX2_record_27 : decode cX2_record 27 = .ok (.iload_n 1, 1) ∧ 27 + 1 = 28 := ⟨by decide +kernel, rfl⟩
theorem eX2_record_28 : decode cX2_record 28 = .ok (.aload_n 0, 1) ∧ 28 + 1 = 29 := ⟨by decide +kernel, rfl⟩
theorem eX2_record_29 : decode cX2_record 29 = .ok (.getfield 29, 3) ∧ 29 + 3 = 32 := ⟨by decide +kernel, rfl⟩
theorem eX2_record_32 : decode cX2_record 32 = .ok (.if_icmp .ne 15, 3) ∧ ((32 : Nat) : Int) + 15 = ((47 : Nat) : Int) ∧ 32 + 3 = 35 := ⟨by decide +kernel, by decide, rfl⟩
theorem eX2_record_35 : decode cX2_record 35 = .ok (.aload_n 0, 1) ∧ 35 + 1 = 36 := ⟨by decide +kernel, rfl⟩
theorem eX2_record_36 : decode cX2_record 36 = .ok (.aload_n 0, 1) ∧ 36 + 1 = 37 := ⟨by decide +kernel, rfl⟩
theorem eX2_record_37 : decode cX2_record 37 = .ok (.getfield 35, 3) ∧ 37 + 3 = 40 := ⟨by decide +kernel, rfl⟩
theorem eX2_record_40 : decode cX2_record 40 = .ok (.iload_n 2, 1) ∧ 40 + 1 = 41 := ⟨by decide +kernel, rfl⟩
theorem eX2_record_41 : decode cX2_record 41 = .ok (.invokestatic 77, 3) ∧ 41 + 3 = 44 := ⟨by decide +kernel, rfl⟩
theorem eX2_record_44 : decode cX2_record 44 = .ok (.putfield 35, 3) ∧ 44 + 3 = 47 := ⟨by decide +kernel, rfl⟩
theorem eX2_record_47 : decode cX2_record 47 = .ok (.iload_n 3, 1) ∧ 47 + 1 = 48 := ⟨by decide +kernel, rfl⟩
theorem eX2_record_48 : decode cX2_record 48 = .ok (.ifCond .lt 19, 3) ∧ ((48 : Nat) : Int) + 19 = ((67 : Nat) : Int) ∧ 48 + 3 = 51 := ⟨by decide +kernel, by decide, rfl⟩
theorem eX2_record_51 : decode cX2_record 51 = .ok (.iload_n 3, 1) ∧ 51 + 1 = 52 := ⟨by decide +kernel, rfl⟩
theorem eX2_record_52 : decode cX2_record 52 = .ok (.aload_n 0, 1) ∧ 52 + 1 = 53 := ⟨by decide +kernel, rfl⟩
theorem eX2_record_53 : decode cX2_record 53 = .ok (.getfield 22, 3) ∧ 53 + 3 = 56 := ⟨by decide +kernel, rfl⟩
theorem eX2_record_56 : decode cX2_record 56 = .ok (.arraylength, 1) ∧ 56 + 1 = 57 := ⟨by decide +kernel, rfl⟩
theorem eX2_record_57 : decode cX2_record 57 = .ok (.if_icmp .ge 10, 3) ∧ ((57 : Nat) : Int) + 10 = ((67 : Nat) : Int) ∧ 57 + 3 = 60 := ⟨by decide +kernel, by decide, rfl⟩
theorem eX2_record_60 : decode cX2_record 60 = .ok (.aload_n 0, 1) ∧ 60 + 1 = 61 := ⟨by decide +kernel, rfl⟩
theorem eX2_record_61 : decode cX2_record 61 = .ok (.getfield 22, 3) ∧ 61 + 3 = 64 := ⟨by decide +kernel, rfl⟩
theorem eX2_record_64 : decode cX2_record 64 = .ok (.iload_n 3, 1) ∧ 64 + 1 = 65 := ⟨by decide +kernel, rfl⟩
theorem eX2_record_65 : decode cX2_record 65 = .ok (.iconst 1, 1) ∧ 65 + 1 = 66 := ⟨by decide +kernel, rfl⟩
theorem eX2_record_66 : decode cX2_record 66 = .ok (.iastore, 1) ∧ 66 + 1 = 67 := ⟨by decide +kernel, rfl⟩
theorem eX2_record_67 : decode cX2_record 67 = .ok (.iload_n 1, 1) ∧ 67 + 1 = 68 := ⟨by decide +kernel, rfl⟩
theorem eX2_record_68 : decode cX2_record 68 = .ok (.aload_n 0, 1) ∧ 68 + 1 = 69 := ⟨by decide +kernel, rfl⟩
theorem eX2_record_69 : decode cX2_record 69 = .ok (.getfield 25, 3) ∧ 69 + 3 = 72 := ⟨by decide +kernel, rfl⟩
theorem eX2_record_72 : decode cX2_record 72 = .ok (.if_icmp .ne 33, 3) ∧ ((72 : Nat) : Int) + 33 = ((105 : Nat) : Int) ∧ 72 + 3 = 75 := ⟨by decide +kernel, by decide, rfl⟩
theorem eX2_record_75 : decode cX2_record 75 = .ok (.aload_n 0, 1) ∧ 75 + 1 = 76 := ⟨by decide +kernel, rfl⟩
theorem eX2_record_76 : decode cX2_record 76 = .ok (.dup, 1) ∧ 76 + 1 = 77 := ⟨by decide +kernel, rfl⟩
theorem eX2_record_77 : decode cX2_record 77 = .ok (.getfield 38, 3) ∧ 77 + 3 = 80 := ⟨by decide +kernel, rfl⟩
theorem eX2_record_80 : decode cX2_record 80 = .ok (.iconst 1, 1) ∧ 80 + 1 = 81 := ⟨by decide +kernel, rfl⟩
theorem eX2_record_81 : decode cX2_record 81 = .ok (.iadd, 1) ∧ 81 + 1 = 82 := ⟨by decide +kernel, rfl⟩
theorem eX2_record_82 : decode cX2_record 82 = .ok (.putfield 38, 3) ∧ 82 + 3 = 85 := ⟨by decide +kernel, rfl⟩
theorem eX2_record_85 : decode cX2_record 85 = .ok (.aload_n 0, 1) ∧ 85 + 1 = 86 := ⟨by decide +kernel, rfl⟩
theorem eX2_record_86 : decode cX2_record 86 = .ok (.dup, 1) ∧ 86 + 1 = 87 := ⟨by decide +kernel, rfl⟩
theorem eX2_record_87 : decode cX2_record 87 = .ok (.getfield 41, 3) ∧ 87 + 3 = 90 := ⟨by decide +kernel, rfl⟩
theorem eX2_record_90 : decode cX2_record 90 = .ok (.iload_n 3, 1) ∧ 90 + 1 = 91 := ⟨by decide +kernel, rfl⟩
theorem eX2_record_91 : decode cX2_record 91 = .ok (.iand, 1) ∧ 91 + 1 = 92 := ⟨by decide +kernel, rfl⟩
theorem eX2_record_92 : decode cX2_record 92 = .ok (.putfield 41, 3) ∧ 92 + 3 = 95 := ⟨by decide +kernel, rfl⟩
theorem eX2_record_95 : decode cX2_record 95 = .ok (.aload_n 0, 1) ∧ 95 + 1 = 96 := ⟨by decide +kernel, rfl⟩
theorem eX2_record_96 : decode cX2_record 96 = .ok (.dup, 1) ∧ 96 + 1 = 97 := ⟨by decide +kernel, rfl⟩
theorem eX2_record_97 : decode cX2_record 97 = .ok (.getfield 44, 3) ∧ 97 + 3 = 100 := ⟨by decide +kernel, rfl⟩
theorem eX2_record_100 : decode cX2_record 100 = .ok (.iload_n 3, 1) ∧ 100 + 1 = 101 := ⟨by decide +kernel, rfl⟩
theorem eX2_record_101 : decode cX2_record 101 = .ok (.ior, 1) ∧ 101 + 1 = 102 := ⟨by decide +kernel, rfl⟩
theorem eX2_record_102 : decode cX2_record 102 = .ok (.putfield 44, 3) ∧ 102 + 3 = 105 := ⟨by decide +kernel, rfl⟩
theorem eX2_record_105 : decode cX2_record 105 = .ok (.return_, 1) := by decide +kernel
theorem eX2_goOn_0 : decode cX2_goOn 0 = .ok (.aload_n 0, 1) ∧ 0 + 1 = 1 := ⟨by decide +kernel, rfl⟩
theorem eX2_goOn_1 : decode cX2_goOn 1 = .ok (.iload_n 2, 1) ∧ 1 + 1 = 2 := ⟨by decide +kernel, rfl⟩
theorem eX2_goOn_2 : decode cX2_goOn 2 = .ok (.iload 4, 2) ∧ 2 + 2 = 4 := ⟨by decide +kernel, rfl⟩
theorem eX2_goOn_4 : decode cX2_goOn 4 = .ok (.iload 5, 2) ∧ 4 + 2 = 6 := ⟨by decide +kernel, rfl⟩
theorem eX2_goOn_6 : decode cX2_goOn 6 = .ok (.iload 6, 2) ∧ 6 + 2 = 8 := ⟨by decide +kernel, rfl⟩
theorem eX2_goOn_8 : decode cX2_goOn 8 = .ok (.invokevirtual 83, 3) ∧ 8 + 3 = 11 := ⟨by decide +kernel, rfl⟩
theorem eX2_goOn_11 : decode cX2_goOn 11 = .ok (.iload_n 2, 1) ∧ 11 + 1 = 12 := ⟨by decide +kernel, rfl⟩
theorem eX2_goOn_12 : decode cX2_goOn 12 = .ok (.aload_n 0, 1) ∧ 12 + 1 = 13 := ⟨by decide +kernel, rfl⟩
theorem eX2_goOn_13 : decode cX2_goOn 13 = .ok (.getfield 25, 3) ∧ 13 + 3 = 16 := ⟨by decide +kernel, rfl⟩
theorem eX2_goOn_16 : decode cX2_goOn 16 = .ok (.if_icmp .ge 9, 3) ∧ ((16 : Nat) : Int) + 9 = ((25 : Nat) : Int) ∧ 16 + 3 = 19 := ⟨by decide +kernel, by decide, rfl⟩
theorem eX2_goOn_19 : decode cX2_goOn 19 = .ok (.iload_n 2, 1) ∧ 19 + 1 = 20 := ⟨by decide +kernel, rfl⟩
theorem eX2_goOn_20 : decode cX2_goOn 20 = .ok (.bipush 6, 2) ∧ 20 + 2 = 22 := ⟨by decide +kernel, rfl⟩
theorem eX2_goOn_22 : decode cX2_goOn 22 = .ok (.if_icmp .lt 4, 3) ∧ ((22 : Nat) : Int) + 4 = ((26 : Nat) : Int) ∧ 22 + 3 = 25 := ⟨by decide +kernel, by decide, rfl⟩
theorem eX2_goOn_25 : decode cX2_goOn 25 = .ok (.return_, 1) := by decide +kernel
theorem eX2_goOn_26 : decode cX2_goOn 26 = .ok (.iconst 0, 1) ∧ 26 + 1 = 27 := ⟨by decide +kernel, rfl⟩
theorem eX2_goOn_27 : decode cX2_goOn 27 = .ok (.istore 7, 2) ∧ 27 + 2 = 29 := ⟨by decide +kernel, rfl⟩
theorem eX2_goOn_29 : decode cX2_goOn 29 = .ok (.iload 7, 2) ∧ 29 + 2 = 31 := ⟨by decide +kernel, rfl⟩
theorem eX2_goOn_31 : decode cX2_goOn 31 = .ok (.aload_n 1, 1) ∧ 31 + 1 = 32 := ⟨by decide +kernel, rfl⟩
theorem eX2_goOn_32 : decode cX2_goOn 32 = .ok (.getfield 87, 3) ∧ 32 + 3 = 35 := ⟨by decide +kernel, rfl⟩
theorem eX2_goOn_35 : decode cX2_goOn 35 = .ok (.if_icmp .ge 126, 3) ∧ ((35 : Nat) : Int) + 126 = ((161 : Nat) : Int) ∧ 35 + 3 = 38 := ⟨by decide +kernel, by decide, rfl⟩
theorem eX2_goOn_38 : decode cX2_goOn 38 = .ok (.aload_n 1, 1) ∧ 38 + 1 = 39 := ⟨by decide +kernel, rfl⟩
theorem eX2_goOn_39 : decode cX2_goOn 39 = .ok (.iload 7, 2) ∧ 39 + 2 = 41 := ⟨by decide +kernel, rfl⟩
theorem eX2_goOn_41 : decode cX2_goOn 41 = .ok (.iconst 0, 1) ∧ 41 + 1 = 42 := ⟨by decide +kernel, rfl⟩
theorem eX2_goOn_42 : decode cX2_goOn 42 = .ok (.invokevirtual 92, 3) ∧ 42 + 3 = 45 := ⟨by decide +kernel, rfl⟩
theorem eX2_goOn_45 : decode cX2_goOn 45 = .ok (.istore 8, 2) ∧ 45 + 2 = 47 := ⟨by decide +kernel, rfl⟩
theorem eX2_goOn_47 : decode cX2_goOn 47 = .ok (.aload_n 0, 1) ∧ 47 + 1 = 48 := ⟨by decide +kernel, rfl⟩
theorem eX2_goOn_48 : decode cX2_goOn 48 = .ok (.getfield 12, 3) ∧ 48 + 3 = 51 := ⟨by decide +kernel, rfl⟩
theorem eX2_goOn_51 : decode cX2_goOn 51 = .ok (.getfield 95, 3) ∧ 51 + 3 = 54 := ⟨by decide +kernel, rfl⟩
theorem eX2_goOn_54 : decode cX2_goOn 54 = .ok (.iload 5, 2) ∧ 54 + 2 = 56 := ⟨by decide +kernel, rfl⟩
theorem eX2_goOn_56 : decode cX2_goOn 56 = .ok (.ior, 1) ∧ 56 + 1 = 57 := ⟨by decide +kernel, rfl⟩
theorem eX2_goOn_57 : decode cX2_goOn 57 = .ok (.iload 7, 2) ∧ 57 + 2 = 59 := ⟨by decide +kernel, rfl⟩
theorem eX2_goOn_59 : decode cX2_goOn 59 = .ok (.ishr, 1) ∧ 59 + 1 = 60 := ⟨by decide +kernel, rfl⟩
theorem eX2_goOn_60 : decode cX2_goOn 60 = .ok (.iconst 1, 1) ∧ 60 + 1 = 61 := ⟨by decide +kernel, rfl⟩
theorem eX2_goOn_61 : decode cX2_goOn 61 = .ok (.iand, 1) ∧ 61 + 1 = 62 := ⟨by decide +kernel, rfl⟩
theorem eX2_goOn_62 : decode cX2_goOn 62 = .ok (.ifCond .ne 7, 3) ∧ ((62 : Nat) : Int) + 7 = ((69 : Nat) : Int) ∧ 62 + 3 = 65 := ⟨by decide +kernel, by decide, rfl⟩
theorem eX2_goOn_65 : decode cX2_goOn 65 = .ok (.iconst 1, 1) ∧ 65 + 1 = 66 := ⟨by decide +kernel, rfl⟩
theorem eX2_goOn_66 : decode cX2_goOn 66 = .ok (.goto 4, 3) ∧ ((66 : Nat) : Int) + 4 = ((70 : Nat) : Int) := ⟨by decide +kernel, by decide⟩
theorem eX2_goOn_69 : decode cX2_goOn 69 = .ok (.iconst 0, 1) ∧ 69 + 1 = 70 := ⟨by decide +kernel, rfl⟩
theorem eX2_goOn_70 : decode cX2_goOn 70 = .ok (.istore 9, 2) ∧ 70 + 2 = 72 := ⟨by decide +kernel, rfl⟩
theorem eX2_goOn_72 : decode cX2_goOn 72 = .ok (.iload 9, 2) ∧ 72 + 2 = 74 := ⟨by decide +kernel, rfl⟩
theorem eX2_goOn_74 : decode cX2_goOn 74 = .ok (.ifCond .eq 81, 3) ∧ ((74 : Nat) : Int) + 81 = ((155 : Nat) : Int) ∧ 74 + 3 = 77 := ⟨by decide +kernel, by decide, rfl⟩
theorem eX2_goOn_77 : decode cX2_goOn 77 = .ok (.aload_n 0, 1) ∧ 77 + 1 = 78 := ⟨by decide +kernel, rfl⟩
theorem eX2_goOn_78 : decode cX2_goOn 78 = .ok (.iload_n 2, 1) ∧ 78 + 1 = 79 := ⟨by decide +kernel, rfl⟩
theorem eX2_goOn_79 : decode cX2_goOn 79 = .ok (.iconst 1, 1) ∧ 79 + 1 = 80 := ⟨by decide +kernel, rfl⟩
theorem eX2_goOn_80 : decode cX2_goOn 80 = .ok (.iadd, 1) ∧ 80 + 1 = 81 := ⟨by decide +kernel, rfl⟩
theorem eX2_goOn_81 : decode cX2_goOn 81 = .ok (.iload 8, 2) ∧ 81 + 2 = 83 := ⟨by decide +kernel, rfl⟩
theorem eX2_goOn_83 : decode cX2_goOn 83 = .ok (.invokevirtual 65, 3) ∧ 83 + 3 = 86 := ⟨by decide +kernel, rfl⟩
theorem eX2_goOn_86 : decode cX2_goOn 86 = .ok (.ifCond .eq 69, 3) ∧ ((86 : Nat) : Int) + 69 = ((155 : Nat) : Int) ∧ 86 + 3 = 89 := ⟨by decide +kernel, by decide, rfl⟩
theorem eX2_goOn_89 : decode cX2_goOn 89 = .ok (.aload_n 1, 1) ∧ 89 + 1 = 90 := ⟨by decide +kernel, rfl⟩
theorem eX2_goOn_90 : decode cX2_goOn 90 = .ok (.iload 7, 2) ∧ 90 + 2 = 92 := ⟨by decide +kernel, rfl⟩
theorem eX2_goOn_92 : decode cX2_goOn 92 = .ok (.iload 4, 2) ∧ 92 + 2 = 94 := ⟨by decide +kernel, rfl⟩
theorem eX2_goOn_94 : decode cX2_goOn 94 = .ok (.aload_n 0, 1) ∧ 94 + 1 = 95 := ⟨by decide +kernel, rfl⟩
theorem eX2_goOn_95 : decode cX2_goOn 95 = .ok (.getfield 12, 3) ∧ 95 + 3 = 98 := ⟨by decide +kernel, rfl⟩
theorem eX2_goOn_98 : decode cX2_goOn 98 = .ok (.iload_n 3, 1) ∧ 98 + 1 = 99 := ⟨by decide +kernel, rfl⟩
theorem eX2_goOn_99 : decode cX2_goOn 99 = .ok (.iload 8, 2) ∧ 99 + 2 = 101 := ⟨by decide +kernel, rfl⟩
theorem eX2_goOn_101 : decode cX2_goOn 101 = .ok (.invokevirtual 98, 3) ∧ 101 + 3 = 104 := ⟨by decide +kernel, rfl⟩
theorem eX2_goOn_104 : decode cX2_goOn 104 = .ok (.invokevirtual 101, 3) ∧ 104 + 3 = 107 := ⟨by decide +kernel, rfl⟩
theorem eX2_goOn_107 : decode cX2_goOn 107 = .ok (.istore 10, 2) ∧ 107 + 2 = 109 := ⟨by decide +kernel, rfl⟩
theorem eX2_goOn_109 : decode cX2_goOn 109 = .ok (.iload 10, 2) ∧ 109 + 2 = 111 := ⟨by decide +kernel, rfl⟩
theorem eX2_goOn_111 : decode cX2_goOn 111 = .ok (.bipush (-9), 2) ∧ 111 + 2 = 113 := ⟨by decide +kernel, rfl⟩
theorem eX2_goOn_113 : decode cX2_goOn 113 = .ok (.if_icmp .eq 42, 3) ∧ ((113 : Nat) : Int) + 42 = ((155 : Nat) : Int) ∧ 113 + 3 = 116 := ⟨by decide +kernel, by decide, rfl⟩
theorem eX2_goOn_116 : decode cX2_goOn 116 = .ok (.aload_n 1, 1) ∧ 116 + 1 = 117 := ⟨by decide +kernel, rfl⟩
theorem eX2_goOn_117 : decode cX2_goOn 117 = .ok (.iload 7, 2) ∧ 117 + 2 = 119 := ⟨by decide +kernel, rfl⟩
theorem eX2_goOn_119 : decode cX2_goOn 119 = .ok (.iload 10, 2) ∧ 119 + 2 = 121 := ⟨by decide +kernel, rfl⟩
theorem eX2_goOn_121 : decode cX2_goOn 121 = .ok (.invokevirtual 105, 3) ∧ 121 + 3 = 124 := ⟨by decide +kernel, rfl⟩
theorem eX2_goOn_124 : decode cX2_goOn 124 = .ok (.istore 11, 2) ∧ 124 + 2 = 126 := ⟨by decide +kernel, rfl⟩
theorem eX2_goOn_126 : decode cX2_goOn 126 = .ok (.aload_n 0, 1) ∧ 126 + 1 = 127 := ⟨by decide +kernel, rfl⟩
theorem eX2_goOn_127 : decode cX2_goOn 127 = .ok (.aload_n 1, 1) ∧ 127 + 1 = 128 := ⟨by decide +kernel, rfl⟩
theorem eX2_goOn_128 : decode cX2_goOn 128 = .ok (.iload_n 2, 1) ∧ 128 + 1 = 129 := ⟨by decide +kernel, rfl⟩
theorem eX2_goOn_129 : decode cX2_goOn 129 = .ok (.iconst 1, 1) ∧ 129 + 1 = 130 := ⟨by decide +kernel, rfl⟩
theorem eX2_goOn_130 : decode cX2_goOn 130 = .ok (.iadd, 1) ∧ 130 + 1 = 131 := ⟨by decide +kernel, rfl⟩
theorem eX2_goOn_131 : decode cX2_goOn 131 = .ok (.iload 8, 2) ∧ 131 + 2 = 133 := ⟨by decide +kernel, rfl⟩
theorem eX2_goOn_133 : decode cX2_goOn 133 = .ok (.iload 11, 2) ∧ 133 + 2 = 135 := ⟨by decide +kernel, rfl⟩
theorem eX2_goOn_135 : decode cX2_goOn 135 = .ok (.iload 5, 2) ∧ 135 + 2 = 137 := ⟨by decide +kernel, rfl⟩
theorem eX2_goOn_137 : decode cX2_goOn 137 = .ok (.iconst 1, 1) ∧ 137 + 1 = 138 := ⟨by decide +kernel, rfl⟩
theorem eX2_goOn_138 : decode cX2_goOn 138 = .ok (.iload 7, 2) ∧ 138 + 2 = 140 := ⟨by decide +kernel, rfl⟩
theorem eX2_goOn_140 : decode cX2_goOn 140 = .ok (.ishl, 1) ∧ 140 + 1 = 141 := ⟨by decide +kernel, rfl⟩
theorem eX2_goOn_141 : decode cX2_goOn 141 = .ok (.ior, 1) ∧ 141 + 1 = 142 := ⟨by decide +kernel, rfl⟩
theorem eX2_goOn_142 : decode cX2_goOn 142 = .ok (.iload 6, 2) ∧ 142 + 2 = 144 := ⟨by decide +kernel, rfl⟩
theorem eX2_goOn_144 : decode cX2_goOn 144 = .ok (.bipush 10, 2) ∧ 144 + 2 = 146 := ⟨by decide +kernel, rfl⟩
theorem eX2_goOn_146 : decode cX2_goOn 146 = .ok (.imul, 1) ∧ 146 + 1 = 147 := ⟨by decide +kernel, rfl⟩
theorem eX2_goOn_147 : decode cX2_goOn 147 = .ok (.iload 7, 2) ∧ 147 + 2 = 149 := ⟨by decide +kernel, rfl⟩
theorem eX2_goOn_149 : decode cX2_goOn 149 = .ok (.iadd, 1) ∧ 149 + 1 = 150 := ⟨by decide +kernel, rfl⟩
theorem eX2_goOn_150 : decode cX2_goOn 150 = .ok (.iconst 1, 1) ∧ 150 + 1 = 151 := ⟨by decide +kernel, rfl⟩
theorem eX2_goOn_151 : decode cX2_goOn 151 = .ok (.iadd, 1) ∧ 151 + 1 = 152 := ⟨by decide +kernel, rfl⟩
theorem eX2_goOn_152 : decode cX2_goOn 152 = .ok (.invokestatic 69, 3) ∧ 152 + 3 = 155 := ⟨by decide +kernel, rfl⟩
theorem eX2_goOn_155 : decode cX2_goOn 155 = .ok (.iinc 7 1, 3) ∧ 155 + 3 = 158 := ⟨by decide +kernel, rfl⟩
theorem eX2_goOn_158 : decode cX2_goOn 158 = .ok (.goto (-129), 3) ∧ ((158 : Nat) : Int) + (-129) = ((29 : Nat) : Int) := ⟨by decide +kernel, by decide⟩
theorem eX2_goOn_161 : decode cX2_goOn 161 = .ok (.return_, 1) := by decide +kernel
theorem eX3_init_0 : decode cX3_init 0 = .ok (.aload_n 0, 1) ∧ 0 + 1 = 1 := ⟨by decide +kernel, rfl⟩
theorem eX3_init_1 : decode cX3_init 1 = .ok (.invokespecial 3, 3) ∧ 1 + 3 = 4 := ⟨by decide +kernel, rfl⟩
theorem eX3_init_4 : decode cX3_init 4 = .ok (.aload_n 0, 1) ∧ 4 + 1 = 5 := ⟨by decide +kernel, rfl⟩
theorem eX3_init_5 : decode cX3_init 5 = .ok (.iconst 5, 1) ∧ 5 + 1 = 6 := ⟨by decide +kernel, rfl⟩
theorem eX3_init_6 : decode cX3_init 6 = .ok (.newarray .int, 2) ∧ 6 + 2 = 8 := ⟨by decide +kernel, rfl⟩
theorem eX3_init_8 : decode cX3_init 8 = .ok (.dup, 1) ∧ 8 + 1 = 9 := ⟨by decide +kernel, rfl⟩
theorem eX3_init_9 : decode cX3_init 9 = .ok (.iconst 0, 1) ∧ 9 + 1 = 10 := ⟨by decide +kernel, rfl⟩
theorem eX3_init_10 : decode cX3_init 10 = .ok (.iconst 1, 1) ∧ 10 + 1 = 11 := ⟨by decide +kernel, rfl⟩
theorem eX3_init_11 : decode cX3_init 11 = .ok (.iastore, 1) ∧ 11 + 1 = 12 := ⟨by decide +kernel, rfl⟩
theorem eX3_init_12 : decode cX3_init 12 = .ok (.dup, 1) ∧ 12 + 1 = 13 := ⟨by decide +kernel, rfl⟩
theorem eX3_init_13 : decode cX3_init 13 = .ok (.iconst 1, 1) ∧ 13 + 1 = 14 := ⟨by decide +kernel, rfl⟩
theorem eX3_init_14 : decode cX3_init 14 = .ok (.iconst 1, 1) ∧ 14 + 1 = 15 := ⟨by decide +kernel, rfl⟩
theorem eX3_init_15 : decode cX3_init 15 = .ok (.iastore, 1) ∧ 15 + 1 = 16 := ⟨by decide +kernel, rfl⟩
theorem eX3_init_16 : decode cX3_init 16 = .ok (.dup, 1) ∧ 16 + 1 = 17 := ⟨by decide +kernel, rfl⟩
theorem eX3_init_17 : decode cX3_init 17 = .ok (.iconst 2, 1) ∧ 17 + 1 = 18 := ⟨by decide +kernel, rfl⟩
theorem eX3_init_18 : decode cX3_init 18 = .ok (.iconst 1, 1) ∧ 18 + 1 = 19 := ⟨by decide +kernel, rfl⟩
theorem eX3_init_19 : decode cX3_init 19 = .ok (.iastore, 1) ∧ 19 + 1 = 20 := ⟨by decide +kernel, rfl⟩
theorem eX3_init_20 : decode cX3_init 20 = .ok (.dup, 1) ∧ 20 + 1 = 21 := ⟨by decide +kernel, rfl⟩
theorem eX3_init_21 : decode cX3_init 21 = .ok (.iconst 3, 1) ∧ 21 + 1 = 22 := ⟨by decide +kernel, rfl⟩
theorem eX3_init_22 : decode cX3_init 22 = .ok (.iconst 1, 1) ∧ 22 + 1 = 23 := ⟨by decide +kernel, rfl⟩
theorem eX3_init_23 : decode cX3_init 23 = .ok (.iastore, 1) ∧ 23 + 1 = 24 := ⟨by decide +kernel, rfl⟩
theorem eX3_init_24 : decode cX3_init 24 = .ok (.dup, 1) ∧ 24 + 1 = 25 := ⟨by decide +kernel, rfl⟩
theorem eX3_init_25 : decode cX3_init 25 = .ok (.iconst 4, 1) ∧ 25 + 1 = 26 := ⟨by decide +kernel, rfl⟩
theorem eX3_init_26 : decode cX3_init 26 = .ok (.iconst 1, 1) ∧ 26 + 1 = 27 := ⟨by decide +kernel, rfl⟩
theorem eX3_init_27 : decode cX3_init 27 = .ok (.iastore, 1) ∧ 27 + 1 = 28 := ⟨by decide +kernel, rfl⟩
theorem eX3_init_28 : decode cX3_init 28 = .ok (.putfield 9, 3) ∧ 28 + 3 = 31 := ⟨by decide +kernel, rfl⟩
theorem eX3_init_31 : decode cX3_init 31 = .ok (.aload_n 0, 1) ∧ 31 + 1 = 32 := ⟨by decide +kernel, rfl⟩
theorem eX3_init_32 : decode cX3_init 32 = .ok (.iconst 0, 1) ∧ 32 + 1 = 33 := ⟨by decide +kernel, rfl⟩
theorem eX3_init_33 : decode cX3_init 33 = .ok (.putfield 15, 3) ∧ 33 + 3 = 36 := ⟨by decide +kernel, rfl⟩
theorem eX3_init_36 : decode cX3_init 36 = .ok (.aload_n 0, 1) ∧ 36 + 1 = 37 := ⟨by decide +kernel, rfl⟩
theorem eX3_init_37 : decode cX3_init 37 = .ok (.iconst 0, 1) ∧ 37 + 1 = 38 := ⟨by decide +kernel, rfl⟩
theorem eX3_init_38 : decode cX3_init 38 = .ok (.putfield 19, 3) ∧ 38 + 3 = 41 := ⟨by decide +kernel, rfl⟩
theorem eX3_init_41 : decode cX3_init 41 = .ok (.aload_n 0, 1) ∧ 41 + 1 = 42 := ⟨by decide +kernel, rfl⟩
theorem eX3_init_42 : decode cX3_init 42 = .ok (.iconst 0, 1) ∧ 42 + 1 = 43 := ⟨by decide +kernel, rfl⟩
theorem eX3_init_43 : decode cX3_init 43 = .ok (.putfield 22, 3) ∧ 43 + 3 = 46 := ⟨by decide +kernel, rfl⟩
theorem eX3_init_46 : decode cX3_init 46 = .ok (.return_, 1) := by decide +kernel
theorem eX3_take_0 : decode cX3_take 0 = .ok (.aload_n 1, 1) ∧ 0 + 1 = 1 := ⟨by decide +kernel, rfl⟩
theorem eX3_take_1 : decode cX3_take 1 = .ok (.ifnonnull 4, 3) ∧ ((1 : Nat) : Int) + 4 = ((5 : Nat) : Int) := ⟨by decide +kernel, by decide⟩
theorem eX3_take_4 : decode cX3_take 4 = .ok (.return_, 1) := by decide +kernel
theorem eX3_take_5 : decode cX3_take 5 = .ok (.aload_n 0, 1) ∧ 5 + 1 = 6 := ⟨by decide +kernel, rfl⟩
theorem eX3_take_6 : decode cX3_take 6 = .ok (.aload_n 1, 1) ∧ 6 + 1 = 7 := ⟨by decide +kernel, rfl⟩
theorem eX3_take_7 : decode cX3_take 7 = .ok (.getfield 15, 3) ∧ 7 + 3 = 10 := ⟨by decide +kernel, rfl⟩
theorem eX3_take_10 : decode cX3_take 10 = .ok (.putfield 15, 3) ∧ 10 + 3 = 13 := ⟨by decide +kernel, rfl⟩
theorem eX3_take_13 : decode cX3_take 13 = .ok (.aload_n 0, 1) ∧ 13 + 1 = 14 := ⟨by decide +kernel, rfl⟩
theorem eX3_take_14 : decode cX3_take 14 = .ok (.aload_n 1, 1) ∧ 14 + 1 = 15 := ⟨by decide +kernel, rfl⟩
theorem eX3_take_15 : decode cX3_take 15 = .ok (.getfield 19, 3) ∧ 15 + 3 = 18 := ⟨by decide +kernel, rfl⟩
theorem eX3_take_18 : decode cX3_take 18 = .ok (.putfield 19, 3) ∧ 18 + 3 = 21 := ⟨by decide +kernel, rfl⟩
theorem eX3_take_21 : decode cX3_take 21 = .ok (.aload_n 0, 1) ∧ 21 + 1 = 22 := ⟨by decide +kernel, rfl⟩
theorem eX3_take_22 : decode cX3_take 22 = .ok (.aload_n 1, 1) ∧ 22 + 1 = 23 := ⟨by decide +kernel, rfl⟩
theorem eX3_take_23 : decode cX3_take 23 = .ok (.getfield 22, 3) ∧ 23 + 3 = 26 := ⟨by decide +kernel, rfl⟩
theorem eX3_take_26 : decode cX3_take 26 = .ok (.putfield 22, 3) ∧ 26 + 3 = 29 := ⟨by decide +kernel, rfl⟩
theorem eX3_take_29 : decode cX3_take 29 = .ok (.iconst 0, 1) ∧ 29 + 1 = 30 := ⟨by decide +kernel, rfl⟩
theorem eX3_take_30 : decode cX3_take 30 = .ok (.istore_n 2, 1) ∧ 30 + 1 = 31 := ⟨by decide +kernel, rfl⟩
theorem eX3_take_31 : decode cX3_take 31 = .ok (.iload_n 2, 1) ∧ 31 + 1 = 32 := ⟨by decide +kernel, rfl⟩
theorem eX3_take_32 : decode cX3_take 32 = .ok (.aload_n 0, 1) ∧ 32 + 1 = 33 := ⟨by decide +kernel, rfl⟩
theorem eX3_take_33 : decode cX3_take 33 = .ok (.getfield 9, 3) ∧ 33 + 3 = 36 := ⟨by decide +kernel, rfl⟩
theorem eX3_take_36 : decode cX3_take 36 = .ok (.arraylength, 1) ∧ 36 + 1 = 37 := ⟨by decide +kernel, rfl⟩
theorem eX3_take_37 : decode cX3_take 37 = .ok (.if_icmp .ge 23, 3) ∧ ((37 : Nat) : Int) + 23 = ((60 : Nat) : Int) ∧ 37 + 3 = 40 := ⟨by decide +kernel, by decide, rfl⟩
theorem eX3_take_40 : decode cX3_take 40 = .ok (.aload_n 0, 1) ∧ 40 + 1 = 41 := ⟨by decide +kernel, rfl⟩
theorem eX3_take_41 : decode cX3_take 41 = .ok (.getfield 9, 3) ∧ 41 + 3 = 44 := ⟨by decide +kernel, rfl⟩
theorem eX3_take_44 : decode cX3_take 44 = .ok (.iload_n 2, 1) ∧ 44 + 1 = 45 := ⟨by decide +kernel, rfl⟩
theorem eX3_take_45 : decode cX3_take 45 = .ok (.aload_n 1, 1) ∧ 45 + 1 = 46 := ⟨by decide +kernel, rfl⟩
theorem eX3_take_46 : decode cX3_take 46 = .ok (.getfield 9, 3) ∧ 46 + 3 = 49 := ⟨by decide +kernel, rfl⟩
theorem eX3_take_49 : decode cX3_take 49 = .ok (.iload_n 2, 1) ∧ 49 + 1 = 50 := ⟨by decide +kernel, rfl⟩
theorem eX3_take_50 : decode cX3_take 50 = .ok (.invokestatic 25, 3) ∧ 50 + 3 = 53 := ⟨by decide +kernel, rfl⟩
theorem eX3_take_53 : decode cX3_take 53 = .ok (.iastore, 1) ∧ 53 + 1 = 54 := ⟨by decide +kernel, rfl⟩
theorem eX3_take_54 : decode cX3_take 54 = .ok (.iinc 2 1, 3) ∧ 54 + 3 = 57 := ⟨by decide +kernel, rfl⟩
theorem eX3_take_57 : decode cX3_take 57 = .ok (.goto (-26), 3) ∧ ((57 : Nat) : Int) + (-26) = ((31 : Nat) : Int) := ⟨by decide +kernel, by decide⟩
theorem eX3_take_60 : decode cX3_take 60 = .ok (.return_, 1) := by decide +kernel
theorem eX3_readFrom_0 : decode cX3_readFrom 0 = .ok (.aload_n 0, 1) ∧ 0 + 1 = 1 := ⟨by decide +kernel, rfl⟩
theorem eX3_readFrom_1 : decode cX3_readFrom 1 = .ok (.iconst 0, 1) ∧ 1 + 1 = 2 := ⟨by decide +kernel, rfl⟩
theorem eX3_readFrom_2 : decode cX3_readFrom 2 = .ok (.putfield 15, 3) ∧ 2 + 3 = 5 := ⟨by decide +kernel, rfl⟩
theorem eX3_readFrom_5 : decode cX3_readFrom 5 = .ok (.aload_n 0, 1) ∧ 5 + 1 = 6 := ⟨by decide +kernel, rfl⟩
theorem eX3_readFrom_6 : decode cX3_readFrom 6 = .ok (.aload_n 1, 1) ∧ 6 + 1 = 7 := ⟨by decide +kernel, rfl⟩
theorem eX3_readFrom_7 : decode cX3_readFrom 7 = .ok (.iconst 2, 1) ∧ 7 + 1 = 8 := ⟨by decide +kernel, rfl⟩
theorem eX3_readFrom_8 : decode cX3_readFrom 8 = .ok (.invokevirtual 29, 3) ∧ 8 + 3 = 11 := ⟨by decide +kernel, rfl⟩
theorem eX3_readFrom_11 : decode cX3_readFrom 11 = .ok (.putfield 19, 3) ∧ 11 + 3 = 14 := ⟨by decide +kernel, rfl⟩
theorem eX3_readFrom_14 : decode cX3_readFrom 14 = .ok (.aload_n 0, 1) ∧ 14 + 1 = 15 := ⟨by decide +kernel, rfl⟩
theorem eX3_readFrom_15 : decode cX3_readFrom 15 = .ok (.iconst 0, 1) ∧ 15 + 1 = 16 := ⟨by decide +kernel, rfl⟩
theorem eX3_readFrom_16 : decode cX3_readFrom 16 = .ok (.putfield 22, 3) ∧ 16 + 3 = 19 := ⟨by decide +kernel, rfl⟩
theorem eX3_readFrom_19 : decode cX3_readFrom 19 = .ok (.iconst 0, 1) ∧ 19 + 1 = 20 := ⟨by decide +kernel, rfl⟩
theorem eX3_readFrom_20 : decode cX3_readFrom 20 = .ok (.istore_n 2, 1) ∧ 20 + 1 = 21 := ⟨by decide +kernel, rfl⟩
theorem eX3_readFrom_21 : decode cX3_readFrom 21 = .ok (.iload_n 2, 1) ∧ 21 + 1 = 22 := ⟨by decide +kernel, rfl⟩
theorem eX3_readFrom_22 : decode cX3_readFrom 22 = .ok (.aload_n 0, 1) ∧ 22 + 1 = 23 := ⟨by decide +kernel, rfl⟩
theorem eX3_readFrom_23 : decode cX3_readFrom 23 = .ok (.getfield 9, 3) ∧ 23 + 3 = 26 := ⟨by decide +kernel, rfl⟩
theorem eX3_readFrom_26 : decode cX3_readFrom 26 = .ok (.arraylength, 1) ∧ 26 + 1 = 27 := ⟨by decide +kernel, rfl⟩
theorem eX3_readFrom_27 : decode cX3_readFrom 27 = .ok (.if_icmp .ge 22, 3) ∧ ((27 : Nat) : Int) + 22 = ((49 : Nat) : Int) ∧ 27 + 3 = 30 := ⟨by decide +kernel, by decide, rfl⟩
theorem eX3_readFrom_30 : decode cX3_readFrom 30 = .ok (.aload_n 0, 1) ∧ 30 + 1 = 31 := ⟨by decide +kernel, rfl⟩
theorem eX3_readFrom_31 : decode cX3_readFrom 31 = .ok (.getfield 9, 3) ∧ 31 + 3 = 34 := ⟨by decide +kernel, rfl⟩
theorem eX3_readFrom_34 : decode cX3_readFrom 34 = .ok (.iload_n 2, 1) ∧ 34 + 1 = 35 := ⟨by decide +kernel, rfl⟩
theorem eX3_readFrom_35 : decode cX3_readFrom 35 = .ok (.aload_n 1, 1) ∧ 35 + 1 = 36 := ⟨by decide +kernel, rfl⟩
theorem eX3_readFrom_36 : decode cX3_readFrom 36 = .ok (.iconst 3, 1) ∧ 36 + 1 = 37 := ⟨by decide +kernel, rfl⟩
theorem eX3_readFrom_37 : decode cX3_readFrom 37 = .ok (.iload_n 2, 1) ∧ 37 + 1 = 38 := ⟨by decide +kernel, rfl⟩
theorem eX3_readFrom_38 : decode cX3_readFrom 38 = .ok (.iadd, 1) ∧ 38 + 1 = 39 := ⟨by decide +kernel, rfl⟩
theorem eX3_readFrom_39 : decode cX3_readFrom 39 = .ok (.invokevirtual 29, 3) ∧ 39 + 3 = 42 := ⟨by decide +kernel, rfl⟩
theorem eX3_readFrom_42 : decode cX3_readFrom 42 = .ok (.iastore, 1) ∧ 42 + 1 = 43 := ⟨by decide +kernel, rfl⟩
theorem eX3_readFrom_43 : decode cX3_readFrom 43 = .ok (.iinc 2 1, 3) ∧ 43 + 3 = 46 := ⟨by decide +kernel, rfl⟩
theorem eX3_readFrom_46 : decode cX3_readFrom 46 = .ok (.goto (-25), 3) ∧ ((46 : Nat) : Int) + (-25) = ((21 : Nat) : Int) := ⟨by decide +kernel, by decide⟩
theorem eX3_readFrom_49 : decode cX3_readFrom 49 = .ok (.return_, 1) := by decide +kernel
theorem eX3_isWed_0 : decode cX3_isWed 0 = .ok (.iload_n 1, 1) ∧ 0 + 1 = 1 := ⟨by decide +kernel, rfl⟩
theorem eX3_isWed_1 : decode cX3_isWed 1 = .ok (.ifCond .lt 24, 3) ∧ ((1 : Nat) : Int) + 24 = ((25 : Nat) : Int) ∧ 1 + 3 = 4 := ⟨by decide +kernel, by decide, rfl⟩
theorem eX3_isWed_4 : decode cX3_isWed 4 = .ok (.iload_n 1, 1) ∧ 4 + 1 = 5 := ⟨by decide +kernel, rfl⟩
theorem eX3_isWed_5 : decode cX3_isWed 5 = .ok (.bipush 6, 2) ∧ 5 + 2 = 7 := ⟨by decide +kernel, rfl⟩
theorem eX3_isWed_7 : decode cX3_isWed 7 = .ok (.if_icmp .ge 18, 3) ∧ ((7 : Nat) : Int) + 18 = ((25 : Nat) : Int) ∧ 7 + 3 = 10 := ⟨by decide +kernel, by decide, rfl⟩
theorem eX3_isWed_10 : decode cX3_isWed 10 = .ok (.aload_n 0, 1) ∧ 10 + 1 = 11 := ⟨by decide +kernel, rfl⟩
theorem eX3_isWed_11 : decode cX3_isWed 11 = .ok (.getfield 22, 3) ∧ 11 + 3 = 14 := ⟨by decide +kernel, rfl⟩
theorem eX3_isWed_14 : decode cX3_isWed 14 = .ok (.iload_n 1, 1) ∧ 14 + 1 = 15 := ⟨by decide +kernel, rfl⟩
theorem eX3_isWed_15 : decode cX3_isWed 15 = .ok (.ishr, 1) ∧ 15 + 1 = 16 := ⟨by decide +kernel, rfl⟩
theorem eX3_isWed_16 : decode cX3_isWed 16 = .ok (.iconst 1, 1) ∧ 16 + 1 = 17 := ⟨by decide +kernel, rfl⟩
theorem eX3_isWed_17 : decode cX3_isWed 17 = .ok (.iand, 1) ∧ 17 + 1 = 18 := ⟨by decide +kernel, rfl⟩
theorem eX3_isWed_18 : decode cX3_isWed 18 = .ok (.ifCond .eq 7, 3) ∧ ((18 : Nat) : Int) + 7 = ((25 : Nat) : Int) ∧ 18 + 3 = 21 := ⟨by decide +kernel, by decide, rfl⟩
theorem eX3_isWed_21 : decode cX3_isWed 21 = .ok (.iconst 1, 1) ∧ 21 + 1 = 22 := ⟨by decide +kernel, rfl⟩
theorem eX3_isWed_22 : decode cX3_isWed 22 = .ok (.goto 4, 3) ∧ ((22 : Nat) : Int) + 4 = ((26 : Nat) : Int) := ⟨by decide +kernel, by decide⟩
theorem eX3_isWed_25 : decode cX3_isWed 25 = .ok (.iconst 0, 1) ∧ 25 + 1 = 26 := ⟨by decide +kernel, rfl⟩
theorem eX3_isWed_26 : decode cX3_isWed 26 = .ok (.ireturn, 1) := by decide +kernel
theorem eX3_shorten_0 : decode cX3_shorten 0 = .ok (.iload_n 1, 1) ∧ 0 + 1 = 1 := ⟨by decide +kernel, rfl⟩
theorem eX3_shorten_1 : decode cX3_shorten 1 = .ok (.ifCond .lt 22, 3) ∧ ((1 : Nat) : Int) + 22 = ((23 : Nat) : Int) ∧ 1 + 3 = 4 := ⟨by decide +kernel, by decide, rfl⟩
theorem eX3_shorten_4 : decode cX3_shorten 4 = .ok (.iload_n 1, 1) ∧ 4 + 1 = 5 := ⟨by decide +kernel, rfl⟩
theorem eX3_shorten_5 : decode cX3_shorten 5 = .ok (.aload_n 0, 1) ∧ 5 + 1 = 6 := ⟨by decide +kernel, rfl⟩
theorem eX3_shorten_6 : decode cX3_shorten 6 = .ok (.getfield 9, 3) ∧ 6 + 3 = 9 := ⟨by decide +kernel, rfl⟩
theorem eX3_shorten_9 : decode cX3_shorten 9 = .ok (.arraylength, 1) ∧ 9 + 1 = 10 := ⟨by decide +kernel, rfl⟩
theorem eX3_shorten_10 : decode cX3_shorten 10 = .ok (.if_icmp .ge 13, 3) ∧ ((10 : Nat) : Int) + 13 = ((23 : Nat) : Int) ∧ 10 + 3 = 13 := ⟨by decide +kernel, by decide, rfl⟩
theorem eX3_shorten_13 : decode cX3_shorten 13 = .ok (.aload_n 0, 1) ∧ 13 + 1 = 14 := ⟨by decide +kernel, rfl⟩
theorem eX3_shorten_14 : decode cX3_shorten 14 = .ok (.getfield 9, 3) ∧ 14 + 3 = 17 := ⟨by decide +kernel, rfl⟩
theorem eX3_shorten_17 : decode cX3_shorten 17 = .ok (.iload_n 1, 1) ∧ 17 + 1 = 18 := ⟨by decide +kernel, rfl⟩
theorem eX3_shorten_18 : decode cX3_shorten 18 = .ok (.dup2, 1) ∧ 18 + 1 = 19 := ⟨by decide +kernel, rfl⟩
theorem eX3_shorten_19 : decode cX3_shorten 19 = .ok (.iaload, 1) ∧ 19 + 1 = 20 := ⟨by decide +kernel, rfl⟩
theorem eX3_shorten_20 : decode cX3_shorten 20 = .ok (.iconst 1, 1) ∧ 20 + 1 = 21 := ⟨by decide +kernel, rfl⟩
theorem eX3_shorten_21 : decode cX3_shorten 21 = .ok (.isub, 1) ∧ 21 + 1 = 22 := ⟨by decide +kernel, rfl⟩
theorem eX3_shorten_22 : decode cX3_shorten 22 = .ok (.iastore, 1) ∧ 22 + 1 = 23 := ⟨by decide +kernel, rfl⟩
theorem eX3_shorten_23 : decode cX3_shorten 23 = .ok (.return_, 1) := by decide +kernel
theorem eX3_hoursBetween_0 : decode cX3_hoursBetween 0 = .ok (.iconst 0, 1) ∧ 0 + 1 = 1 := ⟨by decide +kernel, rfl⟩
theorem eX3_hoursBetween_1 : decode cX3_hoursBetween 1 = .ok (.istore_n 3, 1) ∧ 1 + 1 = 2 := ⟨by decide +kernel, rfl⟩
theorem eX3_hoursBetween_2 : decode cX3_hoursBetween 2 = .ok (.iload_n 1, 1) ∧ 2 + 1 = 3 := ⟨by decide +kernel, rfl⟩
theorem eX3_hoursBetween_3 : decode cX3_hoursBetween 3 = .ok (.iload_n 2, 1) ∧ 3 + 1 = 4 := ⟨by decide +kernel, rfl⟩
theorem eX3_hoursBetween_4 : decode cX3_hoursBetween 4 = .ok (.invokestatic 35, 3) ∧ 4 + 3 = 7 := ⟨by decide +kernel, rfl⟩
theorem eX3_hoursBetween_7 : decode cX3_hoursBetween 7 = .ok (.istore 4, 2) ∧ 7 + 2 = 9 := ⟨by decide +kernel, rfl⟩
theorem eX3_hoursBetween_9 : decode cX3_hoursBetween 9 = .ok (.iload 4, 2) ∧ 9 + 2 = 11 := ⟨by decide +kernel, rfl⟩
theorem eX3_hoursBetween_11 : decode cX3_hoursBetween 11 = .ok (.iload_n 1, 1) ∧ 11 + 1 = 12 := ⟨by decide +kernel, rfl⟩
theorem eX3_hoursBetween_12 : decode cX3_hoursBetween 12 = .ok (.iload_n 2, 1) ∧ 12 + 1 = 13 := ⟨by decide +kernel, rfl⟩
theorem eX3_hoursBetween_13 : decode cX3_hoursBetween 13 = .ok (.invokestatic 41, 3) ∧ 13 + 3 = 16 := ⟨by decide +kernel, rfl⟩
theorem eX3_hoursBetween_16 : decode cX3_hoursBetween 16 = .ok (.if_icmp .ge 21, 3) ∧ ((16 : Nat) : Int) + 21 = ((37 : Nat) : Int) ∧ 16 + 3 = 19 := ⟨by decide +kernel, by decide, rfl⟩
theorem eX3_hoursBetween_19 : decode cX3_hoursBetween 19 = .ok (.iload_n 3, 1) ∧ 19 + 1 = 20 := ⟨by decide +kernel, rfl⟩
theorem eX3_hoursBetween_20 : decode cX3_hoursBetween 20 = .ok (.aload_n 0, 1) ∧ 20 + 1 = 21 := ⟨by decide +kernel, rfl⟩
theorem eX3_hoursBetween_21 : decode cX3_hoursBetween 21 = .ok (.getfield 9, 3) ∧ 21 + 3 = 24 := ⟨by decide +kernel, rfl⟩
theorem eX3_hoursBetween_24 : decode cX3_hoursBetween 24 = .ok (.iload 4, 2) ∧ 24 + 2 = 26 := ⟨by decide +kernel, rfl⟩
theorem eX3_hoursBetween_26 : decode cX3_hoursBetween 26 = .ok (.invokestatic 25, 3) ∧ 26 + 3 = 29 := ⟨by decide +kernel, rfl⟩
theorem eX3_hoursBetween_29 : decode cX3_hoursBetween 29 = .ok (.iadd, 1) ∧ 29 + 1 = 30 := ⟨by decide +kernel, rfl⟩
theorem eX3_hoursBetween_30 : decode cX3_hoursBetween 30 = .ok (.istore_n 3, 1) ∧ 30 + 1 = 31 := ⟨by decide +kernel, rfl⟩
theorem eX3_hoursBetween_31 : decode cX3_hoursBetween 31 = .ok (.iinc 4 1, 3) ∧ 31 + 3 = 34 := ⟨by decide +kernel, rfl⟩
theorem eX3_hoursBetween_34 : decode cX3_hoursBetween 34 = .ok (.goto (-25), 3) ∧ ((34 : Nat) : Int) + (-25) = ((9 : Nat) : Int) := ⟨by decide +kernel, by decide⟩
theorem eX3_hoursBetween_37 : decode cX3_hoursBetween 37 = .ok (.iload_n 3, 1) ∧ 37 + 1 = 38 := ⟨by decide +kernel, rfl⟩
theorem eX3_hoursBetween_38 : decode cX3_hoursBetween 38 = .ok (.ireturn, 1) := by decide +kernel
theorem eX4_init_0 : decode cX4_init 0 = .ok (.aload_n 0, 1) ∧ 0 + 1 = 1 := ⟨by decide +kernel, rfl⟩
theorem eX4_init_1 : decode cX4_init 1 = .ok (.invokespecial 3, 3) ∧ 1 + 3 = 4 := ⟨by decide +kernel, rfl⟩
theorem eX4_init_4 : decode cX4_init 4 = .ok (.aload_n 0, 1) ∧ 4 + 1 = 5 := ⟨by decide +kernel, rfl⟩
theorem eX4_init_5 : decode cX4_init 5 = .ok (.bipush 48, 2) ∧ 5 + 2 = 7 := ⟨by decide +kernel, rfl⟩
theorem eX4_init_7 : decode cX4_init 7 = .ok (.newarray .int, 2) ∧ 7 + 2 = 9 := ⟨by decide +kernel, rfl⟩
theorem eX4_init_9 : decode cX4_init 9 = .ok (.putfield 9, 3) ∧ 9 + 3 = 12 := ⟨by decide +kernel, rfl⟩
theorem eX4_init_12 : decode cX4_init 12 = .ok (.aload_n 0, 1) ∧ 12 + 1 = 13 := ⟨by decide +kernel, rfl⟩
theorem eX4_init_13 : decode cX4_init 13 = .ok (.iconst 0, 1) ∧ 13 + 1 = 14 := ⟨by decide +kernel, rfl⟩
theorem eX4_init_14 : decode cX4_init 14 = .ok (.putfield 15, 3) ∧ 14 + 3 = 17 := ⟨by decide +kernel, rfl⟩
theorem eX4_init_17 : decode cX4_init 17 = .ok (.return_, 1) := by decide +kernel
theorem eX4_add_0 : decode cX4_add 0 = .ok (.aload_n 0, 1) ∧ 0 + 1 = 1 := ⟨by decide +kernel, rfl⟩
theorem eX4_add_1 : decode cX4_add 1 = .ok (.getfield 15, 3) ∧ 1 + 3 = 4 := ⟨by decide +kernel, rfl⟩
theorem eX4_add_4 : decode cX4_add 4 = .ok (.ifCond .lt 15, 3) ∧ ((4 : Nat) : Int) + 15 = ((19 : Nat) : Int) ∧ 4 + 3 = 7 := ⟨by decide +kernel, by decide, rfl⟩
theorem eX4_add_7 : decode cX4_add 7 = .ok (.aload_n 0, 1) ∧ 7 + 1 = 8 := ⟨by decide +kernel, rfl⟩
theorem eX4_add_8 : decode cX4_add 8 = .ok (.getfield 15, 3) ∧ 8 + 3 = 11 := ⟨by decide +kernel, rfl⟩
theorem eX4_add_11 : decode cX4_add 11 = .ok (.aload_n 0, 1) ∧ 11 + 1 = 12 := ⟨by decide +kernel, rfl⟩
theorem eX4_add_12 : decode cX4_add 12 = .ok (.getfield 9, 3) ∧ 12 + 3 = 15 := ⟨by decide +kernel, rfl⟩
theorem eX4_add_15 : decode cX4_add 15 = .ok (.arraylength, 1) ∧ 15 + 1 = 16 := ⟨by decide +kernel, rfl⟩
theorem eX4_add_16 : decode cX4_add 16 = .ok (.if_icmp .lt 5, 3) ∧ ((16 : Nat) : Int) + 5 = ((21 : Nat) : Int) ∧ 16 + 3 = 19 := ⟨by decide +kernel, by decide, rfl⟩
theorem eX4_add_19 : decode cX4_add 19 = .ok (.iconst 0, 1) ∧ 19 + 1 = 20 := ⟨by decide +kernel, rfl⟩
theorem eX4_add_20 : decode cX4_add 20 = .ok (.ireturn, 1) := by decide +kernel
theorem eX4_add_21 : decode cX4_add 21 = .ok (.aload_n 0, 1) ∧ 21 + 1 = 22 := ⟨by decide +kernel, rfl⟩
theorem eX4_add_22 : decode cX4_add 22 = .ok (.getfield 9, 3) ∧ 22 + 3 = 25 := ⟨by decide +kernel, rfl⟩
theorem eX4_add_25 : decode cX4_add 25 = .ok (.aload_n 0, 1) ∧ 25 + 1 = 26 := ⟨by decide +kernel, rfl⟩
theorem eX4_add_26 : decode cX4_add 26 = .ok (.getfield 15, 3) ∧ 26 + 3 = 29 := ⟨by decide +kernel, rfl⟩
theorem eX4_add_29 : decode cX4_add 29 = .ok (.iload_n 1, 1) ∧ 29 + 1 = 30 := ⟨by decide +kernel, rfl⟩
theorem eX4_add_30 : decode cX4_add 30 = .ok (.iastore, 1) ∧ 30 + 1 = 31 := ⟨by decide +kernel, rfl⟩
theorem eX4_add_31 : decode cX4_add 31 = .ok (.aload_n 0, 1) ∧ 31 + 1 = 32 := ⟨by decide +kernel, rfl⟩
theorem eX4_add_32 : decode cX4_add 32 = .ok (.dup, 1) ∧ 32 + 1 = 33 := ⟨by decide +kernel, rfl⟩
theorem eX4_add_33 : decode cX4_add 33 = .ok (.getfield 15, 3) ∧ 33 + 3 = 36 := ⟨by decide +kernel, rfl⟩
theorem eX4_add_36 : decode cX4_add 36 = .ok (.iconst 1, 1) ∧ 36 + 1 = 37 := ⟨by decide +kernel, rfl⟩
theorem eX4_add_37 : decode cX4_add 37 = .ok (.iadd, 1) ∧ 37 + 1 = 38 := ⟨by decide +kernel, rfl⟩
theorem eX4_add_38 : decode cX4_add 38 = .ok (.putfield 15, 3) ∧ 38 + 3 = 41 := ⟨by decide +kernel, rfl⟩
theorem eX4_add_41 : decode cX4_add 41 = .ok (.iconst 1, 1) ∧ 41 + 1 = 42 := ⟨by decide +kernel, rfl⟩
theorem eX4_add_42 : decode cX4_add 42 = .ok (.ireturn, 1) := by decide +kernel
theorem eX4_figure_0 : decode cX4_figure 0 = .ok (.aload_n 0, 1) ∧ 0 + 1 = 1 := ⟨by decide +kernel, rfl⟩
theorem eX4_figure_1 : decode cX4_figure 1 = .ok (.getfield 9, 3) ∧ 1 + 3 = 4 := ⟨by decide +kernel, rfl⟩
theorem eX4_figure_4 : decode cX4_figure 4 = .ok (.iload_n 1, 1) ∧ 4 + 1 = 5 := ⟨by decide +kernel, rfl⟩
theorem eX4_figure_5 : decode cX4_figure 5 = .ok (.invokestatic 19, 3) ∧ 5 + 3 = 8 := ⟨by decide +kernel, rfl⟩
theorem eX4_figure_8 : decode cX4_figure 8 = .ok (.bipush 48, 2) ∧ 8 + 2 = 10 := ⟨by decide +kernel, rfl⟩
theorem eX4_figure_10 : decode cX4_figure 10 = .ok (.isub, 1) ∧ 10 + 1 = 11 := ⟨by decide +kernel, rfl⟩
theorem eX4_figure_11 : decode cX4_figure 11 = .ok (.ireturn, 1) := by decide +kernel
theorem eX4_firstFault_0 : decode cX4_firstFault 0 = .ok (.iconst 0, 1) ∧ 0 + 1 = 1 := ⟨by decide +kernel, rfl⟩
theorem eX4_firstFault_1 : decode cX4_firstFault 1 = .ok (.istore_n 1, 1) ∧ 1 + 1 = 2 := ⟨by decide +kernel, rfl⟩
theorem eX4_firstFault_2 : decode cX4_firstFault 2 = .ok (.iload_n 1, 1) ∧ 2 + 1 = 3 := ⟨by decide +kernel, rfl⟩
theorem eX4_firstFault_3 : decode cX4_firstFault 3 = .ok (.aload_n 0, 1) ∧ 3 + 1 = 4 := ⟨by decide +kernel, rfl⟩
theorem eX4_firstFault_4 : decode cX4_firstFault 4 = .ok (.getfield 15, 3) ∧ 4 + 3 = 7 := ⟨by decide +kernel, rfl⟩
theorem eX4_firstFault_7 : decode cX4_firstFault 7 = .ok (.if_icmp .ge 19, 3) ∧ ((7 : Nat) : Int) + 19 = ((26 : Nat) : Int) ∧ 7 + 3 = 10 := ⟨by decide +kernel, by decide, rfl⟩
theorem eX4_firstFault_10 : decode cX4_firstFault 10 = .ok (.aload_n 0, 1) ∧ 10 + 1 = 11 := ⟨by decide +kernel, rfl⟩
theorem eX4_firstFault_11 : decode cX4_firstFault 11 = .ok (.iload_n 1, 1) ∧ 11 + 1 = 12 := ⟨by decide +kernel, rfl⟩
theorem eX4_firstFault_12 : decode cX4_firstFault 12 = .ok (.invokevirtual 23, 3) ∧ 12 + 3 = 15 := ⟨by decide +kernel, rfl⟩
theorem eX4_firstFault_15 : decode cX4_firstFault 15 = .ok (.ifCond .ne 5, 3) ∧ ((15 : Nat) : Int) + 5 = ((20 : Nat) : Int) ∧ 15 + 3 = 18 := ⟨by decide +kernel, by decide, rfl⟩
theorem eX4_firstFault_18 : decode cX4_firstFault 18 = .ok (.iload_n 1, 1) ∧ 18 + 1 = 19 := ⟨by decide +kernel, rfl⟩
theorem eX4_firstFault_19 : decode cX4_firstFault 19 = .ok (.ireturn, 1) := by decide +kernel
theorem eX4_firstFault_20 : decode cX4_firstFault 20 = .ok (.iinc 1 1, 3) ∧ 20 + 3 = 23 := ⟨by decide +kernel, rfl⟩
theorem eX4_firstFault_23 : decode cX4_firstFault 23 = .ok (.goto (-21), 3) ∧ ((23 : Nat) : Int) + (-21) = ((2 : Nat) : Int) := ⟨by decide +kernel, by decide⟩
theorem eX4_firstFault_26 : decode cX4_firstFault 26 = .ok (.aload_n 0, 1) ∧ 26 + 1 = 27 := ⟨by decide +kernel, rfl⟩
theorem eX4_firstFault_27 : decode cX4_firstFault 27 = .ok (.getfield 15, 3) ∧ 27 + 3 = 30 := ⟨by decide +kernel, rfl⟩
theorem eX4_firstFault_30 : decode cX4_firstFault 30 = .ok (.bipush 8, 2) ∧ 30 + 2 = 32 := ⟨by decide +kernel, rfl⟩
theorem eX4_firstFault_32 : decode cX4_firstFault 32 = .ok (.if_icmp .lt 21, 3) ∧ ((32 : Nat) : Int) + 21 = ((53 : Nat) : Int) ∧ 32 + 3 = 35 := ⟨by decide +kernel, by decide, rfl⟩
theorem eX4_firstFault_35 : decode cX4_firstFault 35 = .ok (.aload_n 0, 1) ∧ 35 + 1 = 36 := ⟨by decide +kernel, rfl⟩
theorem eX4_firstFault_36 : decode cX4_firstFault 36 = .ok (.getfield 15, 3) ∧ 36 + 3 = 39 := ⟨by decide +kernel, rfl⟩
theorem eX4_firstFault_39 : decode cX4_firstFault 39 = .ok (.bipush 8, 2) ∧ 39 + 2 = 41 := ⟨by decide +kernel, rfl⟩
theorem eX4_firstFault_41 : decode cX4_firstFault 41 = .ok (.isub, 1) ∧ 41 + 1 = 42 := ⟨by decide +kernel, rfl⟩
theorem eX4_firstFault_42 : decode cX4_firstFault 42 = .ok (.bipush 6, 2) ∧ 42 + 2 = 44 := ⟨by decide +kernel, rfl⟩
theorem eX4_firstFault_44 : decode cX4_firstFault 44 = .ok (.irem, 1) ∧ 44 + 1 = 45 := ⟨by decide +kernel, rfl⟩
theorem eX4_firstFault_45 : decode cX4_firstFault 45 = .ok (.ifCond .ne 8, 3) ∧ ((45 : Nat) : Int) + 8 = ((53 : Nat) : Int) ∧ 45 + 3 = 48 := ⟨by decide +kernel, by decide, rfl⟩
theorem eX4_firstFault_48 : decode cX4_firstFault 48 = .ok (.bipush (-9), 2) ∧ 48 + 2 = 50 := ⟨by decide +kernel, rfl⟩
theorem eX4_firstFault_50 : decode cX4_firstFault 50 = .ok (.goto 7, 3) ∧ ((50 : Nat) : Int) + 7 = ((57 : Nat) : Int) := ⟨by decide +kernel, by decide⟩
theorem eX4_firstFault_53 : decode cX4_firstFault 53 = .ok (.aload_n 0, 1) ∧ 53 + 1 = 54 := ⟨by decide +kernel, rfl⟩
theorem eX4_firstFault_54 : decode cX4_firstFault 54 = .ok (.getfield 15, 3) ∧ 54 + 3 = 57 := ⟨by decide +kernel, rfl⟩
theorem eX4_firstFault_57 : decode cX4_firstFault 57 = .ok (.ireturn, 1) := by decide +kernel
theorem eX4_fits_0 : decode cX4_fits 0 = .ok (.iload_n 1, 1) ∧ 0 + 1 = 1 := ⟨by decide +kernel, rfl⟩
theorem eX4_fits_1 : decode cX4_fits 1 = .ok (.bipush 8, 2) ∧ 1 + 2 = 3 := ⟨by decide +kernel, rfl⟩
theorem eX4_fits_3 : decode cX4_fits 3 = .ok (.if_icmp .lt 9, 3) ∧ ((3 : Nat) : Int) + 9 = ((12 : Nat) : Int) ∧ 3 + 3 = 6 := ⟨by decide +kernel, by decide, rfl⟩
theorem eX4_fits_6 : decode cX4_fits 6 = .ok (.aload_n 0, 1) ∧ 6 + 1 = 7 := ⟨by decide +kernel, rfl⟩
theorem eX4_fits_7 : decode cX4_fits 7 = .ok (.iload_n 1, 1) ∧ 7 + 1 = 8 := ⟨by decide +kernel, rfl⟩
theorem eX4_fits_8 : decode cX4_fits 8 = .ok (.invokevirtual 27, 3) ∧ 8 + 3 = 11 := ⟨by decide +kernel, rfl⟩
theorem eX4_fits_11 : decode cX4_fits 11 = .ok (.ireturn, 1) := by decide +kernel
theorem eX4_fits_12 : decode cX4_fits 12 = .ok (.iload_n 1, 1) ∧ 12 + 1 = 13 := ⟨by decide +kernel, rfl⟩
theorem eX4_fits_13 : decode cX4_fits 13 = .ok (.tableswitch 63 0 2 #[27, 46, 55], 27) := by decide +kernel
theorem eX4_fits_40 : decode cX4_fits 40 = .ok (.aload_n 0, 1) ∧ 40 + 1 = 41 := ⟨by decide +kernel, rfl⟩
theorem eX4_fits_41 : decode cX4_fits 41 = .ok (.getfield 9, 3) ∧ 41 + 3 = 44 := ⟨by decide +kernel, rfl⟩
theorem eX4_fits_44 : decode cX4_fits 44 = .ok (.iload_n 1, 1) ∧ 44 + 1 = 45 := ⟨by decide +kernel, rfl⟩
theorem eX4_fits_45 : decode cX4_fits 45 = .ok (.invokestatic 19, 3) ∧ 45 + 3 = 48 := ⟨by decide +kernel, rfl⟩
theorem eX4_fits_48 : decode cX4_fits 48 = .ok (.bipush 78, 2) ∧ 48 + 2 = 50 := ⟨by decide +kernel, rfl⟩
theorem eX4_fits_50 : decode cX4_fits 50 = .ok (.if_icmp .ne 7, 3) ∧ ((50 : Nat) : Int) + 7 = ((57 : Nat) : Int) ∧ 50 + 3 = 53 := ⟨by decide +kernel, by decide, rfl⟩
theorem eX4_fits_53 : decode cX4_fits 53 = .ok (.iconst 1, 1) ∧ 53 + 1 = 54 := ⟨by decide +kernel, rfl⟩
theorem eX4_fits_54 : decode cX4_fits 54 = .ok (.goto 4, 3) ∧ ((54 : Nat) : Int) + 4 = ((58 : Nat) : Int) := ⟨by decide +kernel, by decide⟩
theorem eX4_fits_57 : decode cX4_fits 57 = .ok (.iconst 0, 1) ∧ 57 + 1 = 58 := ⟨by decide +kernel, rfl⟩
theorem eX4_fits_58 : decode cX4_fits 58 = .ok (.ireturn, 1) := by decide +kernel
theorem eX4_fits_59 : decode cX4_fits 59 = .ok (.aload_n 0, 1) ∧ 59 + 1 = 60 := ⟨by decide +kernel, rfl⟩
theorem eX4_fits_60 : decode cX4_fits 60 = .ok (.iload_n 1, 1) ∧ 60 + 1 = 61 := ⟨by decide +kernel, rfl⟩
theorem eX4_fits_61 : decode cX4_fits 61 = .ok (.iconst 1, 1) ∧ 61 + 1 = 62 := ⟨by decide +kernel, rfl⟩
theorem eX4_fits_62 : decode cX4_fits 62 = .ok (.bipush 9, 2) ∧ 62 + 2 = 64 := ⟨by decide +kernel, rfl⟩
theorem eX4_fits_64 : decode cX4_fits 64 = .ok (.invokevirtual 30, 3) ∧ 64 + 3 = 67 := ⟨by decide +kernel, rfl⟩
theorem eX4_fits_67 : decode cX4_fits 67 = .ok (.ireturn, 1) := by decide +kernel
theorem eX4_fits_68 : decode cX4_fits 68 = .ok (.aload_n 0, 1) ∧ 68 + 1 = 69 := ⟨by decide +kernel, rfl⟩
theorem eX4_fits_69 : decode cX4_fits 69 = .ok (.iload_n 1, 1) ∧ 69 + 1 = 70 := ⟨by decide +kernel, rfl⟩
theorem eX4_fits_70 : decode cX4_fits 70 = .ok (.iconst 0, 1) ∧ 70 + 1 = 71 := ⟨by decide +kernel, rfl⟩
theorem eX4_fits_71 : decode cX4_fits 71 = .ok (.iconst 5, 1) ∧ 71 + 1 = 72 := ⟨by decide +kernel, rfl⟩
theorem eX4_fits_72 : decode cX4_fits 72 = .ok (.invokevirtual 30, 3) ∧ 72 + 3 = 75 := ⟨by decide +kernel, rfl⟩
theorem eX4_fits_75 : decode cX4_fits 75 = .ok (.ireturn, 1) := by decide +kernel
theorem eX4_fits_76 : decode cX4_fits 76 = .ok (.aload_n 0, 1) ∧ 76 + 1 = 77 := ⟨by decide +kernel, rfl⟩
theorem eX4_fits_77 : decode cX4_fits 77 = .ok (.iload_n 1, 1) ∧ 77 + 1 = 78 := ⟨by decide +kernel, rfl⟩
theorem eX4_fits_78 : decode cX4_fits 78 = .ok (.iconst 0, 1) ∧ 78 + 1 = 79 := ⟨by decide +kernel, rfl⟩
theorem eX4_fits_79 : decode cX4_fits 79 = .ok (.iconst 3, 1) ∧ 79 + 1 = 80 := ⟨by decide +kernel, rfl⟩
theorem eX4_fits_80 : decode cX4_fits 80 = .ok (.invokevirtual 30, 3) ∧ 80 + 3 = 83 := ⟨by decide +kernel, rfl⟩
theorem eX4_fits_83 : decode cX4_fits 83 = .ok (.ireturn, 1) := by decide +kernel
theorem eX4_fitsWedding_0 : decode cX4_fitsWedding 0 = .ok (.iload_n 1, 1) ∧ 0 + 1 = 1 := ⟨by decide +kernel, rfl⟩
theorem eX4_fitsWedding_1 : decode cX4_fitsWedding 1 = .ok (.bipush 44, 2) ∧ 1 + 2 = 3 := ⟨by decide +kernel, rfl⟩
theorem eX4_fitsWedding_3 : decode cX4_fitsWedding 3 = .ok (.if_icmp .lt 5, 3) ∧ ((3 : Nat) : Int) + 5 = ((8 : Nat) : Int) ∧ 3 + 3 = 6 := ⟨by decide +kernel, by decide, rfl⟩
theorem eX4_fitsWedding_6 : decode cX4_fitsWedding 6 = .ok (.iconst 0, 1) ∧ 6 + 1 = 7 := ⟨by decide +kernel, rfl⟩
theorem eX4_fitsWedding_7 : decode cX4_fitsWedding 7 = .ok (.ireturn, 1) := by decide +kernel
theorem eX4_fitsWedding_8 : decode cX4_fitsWedding 8 = .ok (.iload_n 1, 1) ∧ 8 + 1 = 9 := ⟨by decide +kernel, rfl⟩
theorem eX4_fitsWedding_9 : decode cX4_fitsWedding 9 = .ok (.bipush 8, 2) ∧ 9 + 2 = 11 := ⟨by decide +kernel, rfl⟩
theorem eX4_fitsWedding_11 : decode cX4_fitsWedding 11 = .ok (.isub, 1) ∧ 11 + 1 = 12 := ⟨by decide +kernel, rfl⟩
theorem eX4_fitsWedding_12 : decode cX4_fitsWedding 12 = .ok (.bipush 6, 2) ∧ 12 + 2 = 14 := ⟨by decide +kernel, rfl⟩
theorem eX4_fitsWedding_14 : decode cX4_fitsWedding 14 = .ok (.irem, 1) ∧ 14 + 1 = 15 := ⟨by decide +kernel, rfl⟩
theorem eX4_fitsWedding_15 : decode cX4_fitsWedding 15 = .ok (.iconst 1, 1) ∧ 15 + 1 = 16 := ⟨by decide +kernel, rfl⟩
theorem eX4_fitsWedding_16 : decode cX4_fitsWedding 16 = .ok (.isub, 1) ∧ 16 + 1 = 17 := ⟨by decide +kernel, rfl⟩
theorem eX4_fitsWedding_17 : decode cX4_fitsWedding 17 = .ok (.tableswitch 83 0 4 #[35, 43, 52, 67, 75], 35) := by decide +kernel
theorem eX4_fitsWedding_52 : decode cX4_fitsWedding 52 = .ok (.aload_n 0, 1) ∧ 52 + 1 = 53 := ⟨by decide +kernel, rfl⟩
theorem eX4_fitsWedding_53 : decode cX4_fitsWedding 53 = .ok (.iload_n 1, 1) ∧ 53 + 1 = 54 := ⟨by decide +kernel, rfl⟩
theorem eX4_fitsWedding_54 : decode cX4_fitsWedding 54 = .ok (.iconst 0, 1) ∧ 54 + 1 = 55 := ⟨by decide +kernel, rfl⟩
theorem eX4_fitsWedding_55 : decode cX4_fitsWedding 55 = .ok (.iconst 5, 1) ∧ 55 + 1 = 56 := ⟨by decide +kernel, rfl⟩
theorem eX4_fitsWedding_56 : decode cX4_fitsWedding 56 = .ok (.invokevirtual 30, 3) ∧ 56 + 3 = 59 := ⟨by decide +kernel, rfl⟩
theorem eX4_fitsWedding_59 : decode cX4_fitsWedding 59 = .ok (.ireturn, 1) := by decide +kernel
theorem eX4_fitsWedding_60 : decode cX4_fitsWedding 60 = .ok (.aload_n 0, 1) ∧ 60 + 1 = 61 := ⟨by decide +kernel, rfl⟩
theorem eX4_fitsWedding_61 : decode cX4_fitsWedding 61 = .ok (.iload_n 1, 1) ∧ 61 + 1 = 62 := ⟨by decide +kernel, rfl⟩
theorem eX4_fitsWedding_62 : decode cX4_fitsWedding 62 = .ok (.iconst 0, 1) ∧ 62 + 1 = 63 := ⟨by decide +kernel, rfl⟩
theorem eX4_fitsWedding_63 : decode cX4_fitsWedding 63 = .ok (.bipush 9, 2) ∧ 63 + 2 = 65 := ⟨by decide +kernel, rfl⟩
theorem eX4_fitsWedding_65 : decode cX4_fitsWedding 65 = .ok (.invokevirtual 30, 3) ∧ 65 + 3 = 68 := ⟨by decide +kernel, rfl⟩
theorem eX4_fitsWedding_68 : decode cX4_fitsWedding 68 = .ok (.ireturn, 1) := by decide +kernel
theorem eX4_fitsWedding_69 : decode cX4_fitsWedding 69 = .ok (.aload_n 0, 1) ∧ 69 + 1 = 70 := ⟨by decide +kernel, rfl⟩
theorem eX4_fitsWedding_70 : decode cX4_fitsWedding 70 = .ok (.iload_n 1, 1) ∧ 70 + 1 = 71 := ⟨by decide +kernel, rfl⟩
theorem eX4_fitsWedding_71 : decode cX4_fitsWedding 71 = .ok (.aload_n 0, 1) ∧ 71 + 1 = 72 := ⟨by decide +kernel, rfl⟩
theorem eX4_fitsWedding_72 : decode cX4_fitsWedding 72 = .ok (.iload_n 1, 1) ∧ 72 + 1 = 73 := ⟨by decide +kernel, rfl⟩
theorem eX4_fitsWedding_73 : decode cX4_fitsWedding 73 = .ok (.iconst 1, 1) ∧ 73 + 1 = 74 := ⟨by decide +kernel, rfl⟩
theorem eX4_fitsWedding_74 : decode cX4_fitsWedding 74 = .ok (.isub, 1) ∧ 74 + 1 = 75 := ⟨by decide +kernel, rfl⟩
theorem eX4_fitsWedding_75 : decode cX4_fitsWedding 75 = .ok (.invokevirtual 34, 3) ∧ 75 + 3 = 78 := ⟨by decide +kernel, rfl⟩
theorem eX4_fitsWedding_78 : decode cX4_fitsWedding 78 = .ok (.bipush 9, 2) ∧ 78 + 2 = 80 := ⟨by decide +kernel, rfl⟩
theorem eX4_fitsWedding_80 : decode cX4_fitsWedding 80 = .ok (.invokevirtual 30, 3) ∧ 80 + 3 = 83 := ⟨by decide +kernel, rfl⟩
theorem eX4_fitsWedding_83 : decode cX4_fitsWedding 83 = .ok (.ireturn, 1) := by decide +kernel
theorem eX4_fitsWedding_84 : decode cX4_fitsWedding 84 = .ok (.aload_n 0, 1) ∧ 84 + 1 = 85 := ⟨by decide +kernel, rfl⟩
theorem eX4_fitsWedding_85 : decode cX4_fitsWedding 85 = .ok (.iload_n 1, 1) ∧ 85 + 1 = 86 := ⟨by decide +kernel, rfl⟩
theorem eX4_fitsWedding_86 : decode cX4_fitsWedding 86 = .ok (.iconst 1, 1) ∧ 86 + 1 = 87 := ⟨by decide +kernel, rfl⟩
theorem eX4_fitsWedding_87 : decode cX4_fitsWedding 87 = .ok (.iconst 3, 1) ∧ 87 + 1 = 88 := ⟨by decide +kernel, rfl⟩
theorem eX4_fitsWedding_88 : decode cX4_fitsWedding 88 = .ok (.invokevirtual 30, 3) ∧ 88 + 3 = 91 := ⟨by decide +kernel, rfl⟩
theorem eX4_fitsWedding_91 : decode cX4_fitsWedding 91 = .ok (.ireturn, 1) := by decide +kernel
theorem eX4_fitsWedding_92 : decode cX4_fitsWedding 92 = .ok (.aload_n 0, 1) ∧ 92 + 1 = 93 := ⟨by decide +kernel, rfl⟩
theorem eX4_fitsWedding_93 : decode cX4_fitsWedding 93 = .ok (.iload_n 1, 1) ∧ 93 + 1 = 94 := ⟨by decide +kernel, rfl⟩
theorem eX4_fitsWedding_94 : decode cX4_fitsWedding 94 = .ok (.iconst 0, 1) ∧ 94 + 1 = 95 := ⟨by decide +kernel, rfl⟩
theorem eX4_fitsWedding_95 : decode cX4_fitsWedding 95 = .ok (.iconst 3, 1) ∧ 95 + 1 = 96 := ⟨by decide +kernel, rfl⟩
theorem eX4_fitsWedding_96 : decode cX4_fitsWedding 96 = .ok (.invokevirtual 30, 3) ∧ 96 + 3 = 99 := ⟨by decide +kernel, rfl⟩
theorem eX4_fitsWedding_99 : decode cX4_fitsWedding 99 = .ok (.ireturn, 1) := by decide +kernel
theorem eX4_fitsWedding_100 : decode cX4_fitsWedding 100 = .ok (.aload_n 0, 1) ∧ 100 + 1 = 101 := ⟨by decide +kernel, rfl⟩
theorem eX4_fitsWedding_101 : decode cX4_fitsWedding 101 = .ok (.getfield 9, 3) ∧ 101 + 3 = 104 := ⟨by decide +kernel, rfl⟩
theorem eX4_fitsWedding_104 : decode cX4_fitsWedding 104 = .ok (.iload_n 1, 1) ∧ 104 + 1 = 105 := ⟨by decide +kernel, rfl⟩
theorem eX4_fitsWedding_105 : decode cX4_fitsWedding 105 = .ok (.invokestatic 19, 3) ∧ 105 + 3 = 108 := ⟨by decide +kernel, rfl⟩
theorem eX4_fitsWedding_108 : decode cX4_fitsWedding 108 = .ok (.bipush 87, 2) ∧ 108 + 2 = 110 := ⟨by decide +kernel, rfl⟩
theorem eX4_fitsWedding_110 : decode cX4_fitsWedding 110 = .ok (.if_icmp .ne 7, 3) ∧ ((110 : Nat) : Int) + 7 = ((117 : Nat) : Int) ∧ 110 + 3 = 113 := ⟨by decide +kernel, by decide, rfl⟩
theorem eX4_fitsWedding_113 : decode cX4_fitsWedding 113 = .ok (.iconst 1, 1) ∧ 113 + 1 = 114 := ⟨by decide +kernel, rfl⟩
theorem eX4_fitsWedding_114 : decode cX4_fitsWedding 114 = .ok (.goto 4, 3) ∧ ((114 : Nat) : Int) + 4 = ((118 : Nat) : Int) := ⟨by decide +kernel, by decide⟩
theorem eX4_fitsWedding_117 : decode cX4_fitsWedding 117 = .ok (.iconst 0, 1) ∧ 117 + 1 = 118 := ⟨by decide +kernel, rfl⟩
theorem eX4_fitsWedding_118 : decode cX4_fitsWedding 118 = .ok (.ireturn, 1) := by decide +kernel
theorem eX4_isFigure_0 : decode cX4_isFigure 0 = .ok (.aload_n 0, 1) ∧ 0 + 1 = 1 := ⟨by decide +kernel, rfl⟩
theorem eX4_isFigure_1 : decode cX4_isFigure 1 = .ok (.iload_n 1, 1) ∧ 1 + 1 = 2 := ⟨by decide +kernel, rfl⟩
theorem eX4_isFigure_2 : decode cX4_isFigure 2 = .ok (.invokevirtual 34, 3) ∧ 2 + 3 = 5 := ⟨by decide +kernel, rfl⟩
theorem eX4_isFigure_5 : decode cX4_isFigure 5 = .ok (.iload_n 2, 1) ∧ 5 + 1 = 6 := ⟨by decide +kernel, rfl⟩
theorem eX4_isFigure_6 : decode cX4_isFigure 6 = .ok (.if_icmp .lt 16, 3) ∧ ((6 : Nat) : Int) + 16 = ((22 : Nat) : Int) ∧ 6 + 3 = 9 := ⟨by decide +kernel, by decide, rfl⟩
theorem eX4_isFigure_9 : decode cX4_isFigure 9 = .ok (.aload_n 0, 1) ∧ 9 + 1 = 10 := ⟨by decide +kernel, rfl⟩
theorem eX4_isFigure_10 : decode cX4_isFigure 10 = .ok (.iload_n 1, 1) ∧ 10 + 1 = 11 := ⟨by decide +kernel, rfl⟩
theorem eX4_isFigure_11 : decode cX4_isFigure 11 = .ok (.invokevirtual 34, 3) ∧ 11 + 3 = 14 := ⟨by decide +kernel, rfl⟩
theorem eX4_isFigure_14 : decode cX4_isFigure 14 = .ok (.iload_n 3, 1) ∧ 14 + 1 = 15 := ⟨by decide +kernel, rfl⟩
theorem eX4_isFigure_15 : decode cX4_isFigure 15 = .ok (.if_icmp .gt 7, 3) ∧ ((15 : Nat) : Int) + 7 = ((22 : Nat) : Int) ∧ 15 + 3 = 18 := ⟨by decide +kernel, by decide, rfl⟩
theorem eX4_isFigure_18 : decode cX4_isFigure 18 = .ok (.iconst 1, 1) ∧ 18 + 1 = 19 := ⟨by decide +kernel, rfl⟩
theorem eX4_isFigure_19 : decode cX4_isFigure 19 = .ok (.goto 4, 3) ∧ ((19 : Nat) : Int) + 4 = ((23 : Nat) : Int) := ⟨by decide +kernel, by decide⟩
theorem eX4_isFigure_22 : decode cX4_isFigure 22 = .ok (.iconst 0, 1) ∧ 22 + 1 = 23 := ⟨by decide +kernel, rfl⟩
theorem eX4_isFigure_23 : decode cX4_isFigure 23 = .ok (.ireturn, 1) := by decide +kernel
theorem eJ6_bitCount_0f7a4_0 : decode cJ6_bitCount_0f7a4 0 = .ok (.iload_n 0, 1) ∧ 0 + 1 = 1 := ⟨by decide +kernel, rfl⟩
theorem eJ6_bitCount_0f7a4_1 : decode cJ6_bitCount_0f7a4 1 = .ok (.iload_n 0, 1) ∧ 1 + 1 = 2 := ⟨by decide +kernel, rfl⟩
theorem eJ6_bitCount_0f7a4_2 : decode cJ6_bitCount_0f7a4 2 = .ok (.iconst 1, 1) ∧ 2 + 1 = 3 := ⟨by decide +kernel, rfl⟩
theorem eJ6_bitCount_0f7a4_3 : decode cJ6_bitCount_0f7a4 3 = .ok (.iushr, 1) ∧ 3 + 1 = 4 := ⟨by decide +kernel, rfl⟩
theorem eJ6_bitCount_0f7a4_4 : decode cJ6_bitCount_0f7a4 4 = .ok (.ldc_w 265, 3) ∧ 4 + 3 = 7 := ⟨by decide +kernel, rfl⟩
theorem eJ6_bitCount_0f7a4_7 : decode cJ6_bitCount_0f7a4 7 = .ok (.iand, 1) ∧ 7 + 1 = 8 := ⟨by decide +kernel, rfl⟩
theorem eJ6_bitCount_0f7a4_8 : decode cJ6_bitCount_0f7a4 8 = .ok (.isub, 1) ∧ 8 + 1 = 9 := ⟨by decide +kernel, rfl⟩
theorem eJ6_bitCount_0f7a4_9 : decode cJ6_bitCount_0f7a4 9 = .ok (.istore_n 0, 1) ∧ 9 + 1 = 10 := ⟨by decide +kernel, rfl⟩
theorem eJ6_bitCount_0f7a4_10 : decode cJ6_bitCount_0f7a4 10 = .ok (.iload_n 0, 1) ∧ 10 + 1 = 11 := ⟨by decide +kernel, rfl⟩
theorem eJ6_bitCount_0f7a4_11 : decode cJ6_bitCount_0f7a4 11 = .ok (.ldc_w 266, 3) ∧ 11 + 3 = 14 := ⟨by decide +kernel, rfl⟩
theorem eJ6_bitCount_0f7a4_14 : decode cJ6_bitCount_0f7a4 14 = .ok (.iand, 1) ∧ 14 + 1 = 15 := ⟨by decide +kernel, rfl⟩
theorem eJ6_bitCount_0f7a4_15 : decode cJ6_bitCount_0f7a4 15 = .ok (.iload_n 0, 1) ∧ 15 + 1 = 16 := ⟨by decide +kernel, rfl⟩
theorem eJ6_bitCount_0f7a4_16 : decode cJ6_bitCount_0f7a4 16 = .ok (.iconst 2, 1) ∧ 16 + 1 = 17 := ⟨by decide +kernel, rfl⟩
theorem eJ6_bitCount_0f7a4_17 : decode cJ6_bitCount_0f7a4 17 = .ok (.iushr, 1) ∧ 17 + 1 = 18 := ⟨by decide +kernel, rfl⟩
theorem eJ6_bitCount_0f7a4_18 : decode cJ6_bitCount_0f7a4 18 = .ok (.ldc_w 266, 3) ∧ 18 + 3 = 21 := ⟨by decide +kernel, rfl⟩
theorem eJ6_bitCount_0f7a4_21 : decode cJ6_bitCount_0f7a4 21 = .ok (.iand, 1) ∧ 21 + 1 = 22 := ⟨by decide +kernel, rfl⟩
theorem eJ6_bitCount_0f7a4_22 : decode cJ6_bitCount_0f7a4 22 = .ok (.iadd, 1) ∧ 22 + 1 = 23 := ⟨by decide +kernel, rfl⟩
theorem eJ6_bitCount_0f7a4_23 : decode cJ6_bitCount_0f7a4 23 = .ok (.istore_n 0, 1) ∧ 23 + 1 = 24 := ⟨by decide +kernel, rfl⟩
theorem eJ6_bitCount_0f7a4_24 : decode cJ6_bitCount_0f7a4 24 = .ok (.iload_n 0, 1) ∧ 24 + 1 = 25 := ⟨by decide +kernel, rfl⟩
theorem eJ6_bitCount_0f7a4_25 : decode cJ6_bitCount_0f7a4 25 = .ok (.iload_n 0, 1) ∧ 25 + 1 = 26 := ⟨by decide +kernel, rfl⟩
theorem eJ6_bitCount_0f7a4_26 : decode cJ6_bitCount_0f7a4 26 = .ok (.iconst 4, 1) ∧ 26 + 1 = 27 := ⟨by decide +kernel, rfl⟩
theorem eJ6_bitCount_0f7a4_27 : decode cJ6_bitCount_0f7a4 27 = .ok (.iushr, 1) ∧ 27 + 1 = 28 := ⟨by decide +kernel, rfl⟩
theorem eJ6_bitCount_0f7a4_28 : decode cJ6_bitCount_0f7a4 28 = .ok (.iadd, 1) ∧ 28 + 1 = 29 := ⟨by decide +kernel, rfl⟩
theorem eJ6_bitCount_0f7a4_29 : decode cJ6_bitCount_0f7a4 29 = .ok (.ldc_w 267, 3) ∧ 29 + 3 = 32 := ⟨by decide +kernel, rfl⟩
theorem eJ6_bitCount_0f7a4_32 : decode cJ6_bitCount_0f7a4 32 = .ok (.iand, 1) ∧ 32 + 1 = 33 := ⟨by decide +kernel, rfl⟩
theorem eJ6_bitCount_0f7a4_33 : decode cJ6_bitCount_0f7a4 33 = .ok (.istore_n 0, 1) ∧ 33 + 1 = 34 := ⟨by decide +kernel, rfl⟩
theorem eJ6_bitCount_0f7a4_34 : decode cJ6_bitCount_0f7a4 34 = .ok (.iload_n 0, 1) ∧ 34 + 1 = 35 := ⟨by decide +kernel, rfl⟩
theorem eJ6_bitCount_0f7a4_35 : decode cJ6_bitCount_0f7a4 35 = .ok (.iload_n 0, 1) ∧ 35 + 1 = 36 := ⟨by decide +kernel, rfl⟩
theorem eJ6_bitCount_0f7a4_36 : decode cJ6_bitCount_0f7a4 36 = .ok (.bipush 8, 2) ∧ 36 + 2 = 38 := ⟨by decide +kernel, rfl⟩
theorem eJ6_bitCount_0f7a4_38 : decode cJ6_bitCount_0f7a4 38 = .ok (.iushr, 1) ∧ 38 + 1 = 39 := ⟨by decide +kernel, rfl⟩
theorem eJ6_bitCount_0f7a4_39 : decode cJ6_bitCount_0f7a4 39 = .ok (.iadd, 1) ∧ 39 + 1 = 40 := ⟨by decide +kernel, rfl⟩
theorem eJ6_bitCount_0f7a4_40 : decode cJ6_bitCount_0f7a4 40 = .ok (.istore_n 0, 1) ∧ 40 + 1 = 41 := ⟨by decide +kernel, rfl⟩
theorem eJ6_bitCount_0f7a4_41 : decode cJ6_bitCount_0f7a4 41 = .ok (.iload_n 0, 1) ∧ 41 + 1 = 42 := ⟨by decide +kernel, rfl⟩
theorem eJ6_bitCount_0f7a4_42 : decode cJ6_bitCount_0f7a4 42 = .ok (.iload_n 0, 1) ∧ 42 + 1 = 43 := ⟨by decide +kernel, rfl⟩
theorem eJ6_bitCount_0f7a4_43 : decode cJ6_bitCount_0f7a4 43 = .ok (.bipush 16, 2) ∧ 43 + 2 = 45 := ⟨by decide +kernel, rfl⟩
theorem eJ6_bitCount_0f7a4_45 : decode cJ6_bitCount_0f7a4 45 = .ok (.iushr, 1) ∧ 45 + 1 = 46 := ⟨by decide +kernel, rfl⟩
theorem eJ6_bitCount_0f7a4_46 : decode cJ6_bitCount_0f7a4 46 = .ok (.iadd, 1) ∧ 46 + 1 = 47 := ⟨by decide +kernel, rfl⟩
theorem eJ6_bitCount_0f7a4_47 : decode cJ6_bitCount_0f7a4 47 = .ok (.istore_n 0, 1) ∧ 47 + 1 = 48 := ⟨by decide +kernel, rfl⟩
theorem eJ6_bitCount_0f7a4_48 : decode cJ6_bitCount_0f7a4 48 = .ok (.iload_n 0, 1) ∧ 48 + 1 = 49 := ⟨by decide +kernel, rfl⟩
theorem eJ6_bitCount_0f7a4_49 : decode cJ6_bitCount_0f7a4 49 = .ok (.bipush 63, 2) ∧ 49 + 2 = 51 := ⟨by decide +kernel, rfl⟩
theorem eJ6_bitCount_0f7a4_51 : decode cJ6_bitCount_0f7a4 51 = .ok (.iand, 1) ∧ 51 + 1 = 52 := ⟨by decide +kernel, rfl⟩
theorem eJ6_bitCount_0f7a4_52 : decode cJ6_bitCount_0f7a4 52 = .ok (.ireturn, 1) := by decide +kernel
theorem eJ9_max_7cf53_0 : decode cJ9_max_7cf53 0 = .ok (.iload_n 0, 1) ∧ 0 + 1 = 1 := ⟨by decide +kernel, rfl⟩
theorem eJ9_max_7cf53_1 : decode cJ9_max_7cf53 1 = .ok (.iload_n 1, 1) ∧ 1 + 1 = 2 := ⟨by decide +kernel, rfl⟩
theorem eJ9_max_7cf53_2 : decode cJ9_max_7cf53 2 = .ok (.if_icmp .lt 7, 3) ∧ ((2 : Nat) : Int) + 7 = ((9 : Nat) : Int) ∧ 2 + 3 = 5 := ⟨by decide +kernel, by decide, rfl⟩
theorem eJ9_max_7cf53_5 : decode cJ9_max_7cf53 5 = .ok (.iload_n 0, 1) ∧ 5 + 1 = 6 := ⟨by decide +kernel, rfl⟩
theorem eJ9_max_7cf53_6 : decode cJ9_max_7cf53 6 = .ok (.goto 4, 3) ∧ ((6 : Nat) : Int) + 4 = ((10 : Nat) : Int) := ⟨by decide +kernel, by decide⟩
theorem eJ9_max_7cf53_9 : decode cJ9_max_7cf53 9 = .ok (.iload_n 1, 1) ∧ 9 + 1 = 10 := ⟨by decide +kernel, rfl⟩
theorem eJ9_max_7cf53_10 : decode cJ9_max_7cf53 10 = .ok (.ireturn, 1) := by decide +kernel
theorem eJ9_min_7cf53_0 : decode cJ9_min_7cf53 0 = .ok (.iload_n 0, 1) ∧ 0 + 1 = 1 := ⟨by decide +kernel, rfl⟩
theorem eJ9_min_7cf53_1 : decode cJ9_min_7cf53 1 = .ok (.iload_n 1, 1) ∧ 1 + 1 = 2 := ⟨by decide +kernel, rfl⟩
theorem eJ9_min_7cf53_2 : decode cJ9_min_7cf53 2 = .ok (.if_icmp .gt 7, 3) ∧ ((2 : Nat) : Int) + 7 = ((9 : Nat) : Int) ∧ 2 + 3 = 5 := ⟨by decide +kernel, by decide, rfl⟩
theorem eJ9_min_7cf53_5 : decode cJ9_min_7cf53 5 = .ok (.iload_n 0, 1) ∧ 5 + 1 = 6 := ⟨by decide +kernel, rfl⟩
theorem eJ9_min_7cf53_6 : decode cJ9_min_7cf53 6 = .ok (.goto 4, 3) ∧ ((6 : Nat) : Int) + 4 = ((10 : Nat) : Int) := ⟨by decide +kernel, by decide⟩
theorem eJ9_min_7cf53_9 : decode cJ9_min_7cf53 9 = .ok (.iload_n 1, 1) ∧ 9 + 1 = 10 := ⟨by decide +kernel, rfl⟩
theorem eJ9_min_7cf53_10 : decode cJ9_min_7cf53 10 = .ok (.ireturn, 1) := by decide +kernel
