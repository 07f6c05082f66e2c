theorem dX0_init_0 : decode cX0_init 0 = .ok (.aload_n 0, 1) := by decide +kernel
theorem dX0_init_1 : decode cX0_init 1 = .ok (.invokespecial 3, 3) := by decide +kernel
theorem dX0_init_4 : decode cX0_init 4 = .ok (.aload_n 0, 1) := by decide +kernel
theorem dX0_init_5 : decode cX0_init 5 = .ok (.iconst 3, 1) := by decide +kernel
theorem dX0_init_6 : decode cX0_init 6 = .ok (.newarray .int, 2) := by decide +kernel
theorem dX0_init_8 : decode cX0_init 8 = .ok (.putfield 9, 3) := by decide +kernel
theorem dX0_init_11 : decode cX0_init 11 = .ok (.aload_n 0, 1) := by decide +kernel
theorem dX0_init_12 : decode cX0_init 12 = .ok (.iconst 3, 1) := by decide +kernel
theorem dX0_init_13 : decode cX0_init 13 = .ok (.newarray .int, 2) := by decide +kernel
theorem dX0_init_15 : decode cX0_init 15 = .ok (.putfield 15, 3) := by decide +kernel
theorem dX0_init_18 : decode cX0_init 18 = .ok (.aload_n 0, 1) := by decide +kernel
theorem dX0_init_19 : decode cX0_init 19 = .ok (.iconst 3, 1) := by decide +kernel
theorem dX0_init_20 : decode cX0_init 20 = .ok (.newarray .int, 2) := by decide +kernel
theorem dX0_init_22 : decode cX0_init 22 = .ok (.putfield 18, 3) := by decide +kernel
theorem dX0_init_25 : decode cX0_init 25 = .ok (.aload_n 0, 1) := by decide +kernel
theorem dX0_init_26 : decode cX0_init 26 = .ok (.iconst 3, 1) := by decide +kernel
theorem dX0_init_27 : decode cX0_init 27 = .ok (.newarray .int, 2) := by decide +kernel
theorem dX0_init_29 : decode cX0_init 29 = .ok (.putfield 21, 3) := by decide +kernel
theorem dX0_init_32 : decode cX0_init 32 = .ok (.aload_n 0, 1) := by decide +kernel
theorem dX0_init_33 : decode cX0_init 33 = .ok (.bipush 8, 2) := by decide +kernel
theorem dX0_init_35 : decode cX0_init 35 = .ok (.newarray .int, 2) := by decide +kernel
theorem dX0_init_37 : decode cX0_init 37 = .ok (.putfield 24, 3) := by decide +kernel
theorem dX0_init_40 : decode cX0_init 40 = .ok (.aload_n 0, 1) := by decide +kernel
theorem dX0_init_41 : decode cX0_init 41 = .ok (.bipush 8, 2) := by decide +kernel
theorem dX0_init_43 : decode cX0_init 43 = .ok (.newarray .int, 2) := by decide +kernel
theorem dX0_init_45 : decode cX0_init 45 = .ok (.putfield 27, 3) := by decide +kernel
theorem dX0_init_48 : decode cX0_init 48 = .ok (.return_, 1) := by decide +kernel
theorem dX0_clear_0 : decode cX0_clear 0 = .ok (.aload_n 0, 1) := by decide +kernel
theorem dX0_clear_1 : decode cX0_clear 1 = .ok (.iconst 0, 1) := by decide +kernel
theorem dX0_clear_2 : decode cX0_clear 2 = .ok (.putfield 30, 3) := by decide +kernel
theorem dX0_clear_5 : decode cX0_clear 5 = .ok (.aload_n 0, 1) := by decide +kernel
theorem dX0_clear_6 : decode cX0_clear 6 = .ok (.iconst 0, 1) := by decide +kernel
theorem dX0_clear_7 : decode cX0_clear 7 = .ok (.putfield 34, 3) := by decide +kernel
theorem dX0_clear_10 : decode cX0_clear 10 = .ok (.return_, 1) := by decide +kernel
theorem dX0_copyFrom_0 : decode cX0_copyFrom 0 = .ok (.aload_n 0, 1) := by decide +kernel
theorem dX0_copyFrom_1 : decode cX0_copyFrom 1 = .ok (.aload_n 1, 1) := by decide +kernel
theorem dX0_copyFrom_2 : decode cX0_copyFrom 2 = .ok (.getfield 30, 3) := by decide +kernel
theorem dX0_copyFrom_5 : decode cX0_copyFrom 5 = .ok (.putfield 30, 3) := by decide +kernel
theorem dX0_copyFrom_8 : decode cX0_copyFrom 8 = .ok (.aload_n 0, 1) := by decide +kernel
theorem dX0_copyFrom_9 : decode cX0_copyFrom 9 = .ok (.aload_n 1, 1) := by decide +kernel
theorem dX0_copyFrom_10 : decode cX0_copyFrom 10 = .ok (.getfield 34, 3) := by decide +kernel
theorem dX0_copyFrom_13 : decode cX0_copyFrom 13 = .ok (.putfield 34, 3) := by decide +kernel
theorem dX0_copyFrom_16 : decode cX0_copyFrom 16 = .ok (.aload_n 1, 1) := by decide +kernel
theorem dX0_copyFrom_17 : decode cX0_copyFrom 17 = .ok (.getfield 9, 3) := by decide +kernel
theorem dX0_copyFrom_20 : decode cX0_copyFrom 20 = .ok (.aload_n 0, 1) := by decide +kernel
theorem dX0_copyFrom_21 : decode cX0_copyFrom 21 = .ok (.getfield 9, 3) := by decide +kernel
theorem dX0_copyFrom_24 : decode cX0_copyFrom 24 = .ok (.invokestatic 37, 3) := by decide +kernel
theorem dX0_copyFrom_27 : decode cX0_copyFrom 27 = .ok (.aload_n 1, 1) := by decide +kernel
theorem dX0_copyFrom_28 : decode cX0_copyFrom 28 = .ok (.getfield 15, 3) := by decide +kernel
theorem dX0_copyFrom_31 : decode cX0_copyFrom 31 = .ok (.aload_n 0, 1) := by decide +kernel
theorem dX0_copyFrom_32 : decode cX0_copyFrom 32 = .ok (.getfield 15, 3) := by decide +kernel
theorem dX0_copyFrom_35 : decode cX0_copyFrom 35 = .ok (.invokestatic 37, 3) := by decide +kernel
theorem dX0_copyFrom_38 : decode cX0_copyFrom 38 = .ok (.aload_n 1, 1) := by decide +kernel
theorem dX0_copyFrom_39 : decode cX0_copyFrom 39 = .ok (.getfield 18, 3) := by decide +kernel
theorem dX0_copyFrom_42 : decode cX0_copyFrom 42 = .ok (.aload_n 0, 1) := by decide +kernel
theorem dX0_copyFrom_43 : decode cX0_copyFrom 43 = .ok (.getfield 18, 3) := by decide +kernel
theorem dX0_copyFrom_46 : decode cX0_copyFrom 46 = .ok (.invokestatic 37, 3) := by decide +kernel
theorem dX0_copyFrom_49 : decode cX0_copyFrom 49 = .ok (.aload_n 1, 1) := by decide +kernel
theorem dX0_copyFrom_50 : decode cX0_copyFrom 50 = .ok (.getfield 21, 3) := by decide +kernel
theorem dX0_copyFrom_53 : decode cX0_copyFrom 53 = .ok (.aload_n 0, 1) := by decide +kernel
theorem dX0_copyFrom_54 : decode cX0_copyFrom 54 = .ok (.getfield 21, 3) := by decide +kernel
theorem dX0_copyFrom_57 : decode cX0_copyFrom 57 = .ok (.invokestatic 37, 3) := by decide +kernel
theorem dX0_copyFrom_60 : decode cX0_copyFrom 60 = .ok (.aload_n 1, 1) := by decide +kernel
theorem dX0_copyFrom_61 : decode cX0_copyFrom 61 = .ok (.getfield 24, 3) := by decide +kernel
theorem dX0_copyFrom_64 : decode cX0_copyFrom 64 = .ok (.aload_n 0, 1) := by decide +kernel
theorem dX0_copyFrom_65 : decode cX0_copyFrom 65 = .ok (.getfield 24, 3) := by decide +kernel
theorem dX0_copyFrom_68 : decode cX0_copyFrom 68 = .ok (.invokestatic 37, 3) := by decide +kernel
theorem dX0_copyFrom_71 : decode cX0_copyFrom 71 = .ok (.aload_n 1, 1) := by decide +kernel
theorem dX0_copyFrom_72 : decode cX0_copyFrom 72 = .ok (.getfield 27, 3) := by decide +kernel
theorem dX0_copyFrom_75 : decode cX0_copyFrom 75 = .ok (.aload_n 0, 1) := by decide +kernel
theorem dX0_copyFrom_76 : decode cX0_copyFrom 76 = .ok (.getfield 27, 3) := by decide +kernel
theorem dX0_copyFrom_79 : decode cX0_copyFrom 79 = .ok (.invokestatic 37, 3) := by decide +kernel
theorem dX0_copyFrom_82 : decode cX0_copyFrom 82 = .ok (.return_, 1) := by decide +kernel
theorem dX0_copyRow_0 : decode cX0_copyRow 0 = .ok (.iconst 0, 1) := by decide +kernel
theorem dX0_copyRow_1 : decode cX0_copyRow 1 = .ok (.istore_n 2, 1) := by decide +kernel
theorem dX0_copyRow_2 : decode cX0_copyRow 2 = .ok (.iload_n 2, 1) := by decide +kernel
theorem dX0_copyRow_3 : decode cX0_copyRow 3 = .ok (.aload_n 1, 1) := by decide +kernel
theorem dX0_copyRow_4 : decode cX0_copyRow 4 = .ok (.arraylength, 1) := by decide +kernel
theorem dX0_copyRow_5 : decode cX0_copyRow 5 = .ok (.if_icmp .ge 19, 3) := by decide +kernel
theorem dX0_copyRow_8 : decode cX0_copyRow 8 = .ok (.aload_n 1, 1) := by decide +kernel
theorem dX0_copyRow_9 : decode cX0_copyRow 9 = .ok (.iload_n 2, 1) := by decide +kernel
theorem dX0_copyRow_10 : decode cX0_copyRow 10 = .ok (.aload_n 0, 1) := by decide +kernel
theorem dX0_copyRow_11 : decode cX0_copyRow 11 = .ok (.iload_n 2, 1) := by decide +kernel
theorem dX0_copyRow_12 : decode cX0_copyRow 12 = .ok (.invokestatic 41, 3) := by decide +kernel
theorem dX0_copyRow_15 : decode cX0_copyRow 15 = .ok (.invokestatic 45, 3) := by decide +kernel
theorem dX0_copyRow_18 : decode cX0_copyRow 18 = .ok (.iinc 2 1, 3) := by decide +kernel
theorem dX0_copyRow_21 : decode cX0_copyRow 21 = .ok (.goto (-19), 3) := by decide +kernel
theorem dX0_copyRow_24 : decode cX0_copyRow 24 = .ok (.return_, 1) := by decide +kernel
theorem dX0_has_0 : decode cX0_has 0 = .ok (.iload_n 1, 1) := by decide +kernel
theorem dX0_has_1 : decode cX0_has 1 = .ok (.ifCond .lt 15, 3) := by decide +kernel
theorem dX0_has_4 : decode cX0_has 4 = .ok (.iload_n 1, 1) := by decide +kernel
theorem dX0_has_5 : decode cX0_has 5 = .ok (.aload_n 0, 1) := by decide +kernel
theorem dX0_has_6 : decode cX0_has 6 = .ok (.getfield 30, 3) := by decide +kernel
theorem dX0_has_9 : decode cX0_has 9 = .ok (.if_icmp .ge 7, 3) := by decide +kernel
theorem dX0_has_12 : decode cX0_has 12 = .ok (.iconst 1, 1) := by decide +kernel
theorem dX0_has_13 : decode cX0_has 13 = .ok (.goto 4, 3) := by decide +kernel
theorem dX0_has_16 : decode cX0_has 16 = .ok (.iconst 0, 1) := by decide +kernel
theorem dX0_has_17 : decode cX0_has 17 = .ok (.ireturn, 1) := by decide +kernel
theorem dX0_welcome_0 : decode cX0_welcome 0 = .ok (.aload_n 0, 1) := by decide +kernel
theorem dX0_welcome_1 : decode cX0_welcome 1 = .ok (.getfield 30, 3) := by decide +kernel
theorem dX0_welcome_4 : decode cX0_welcome 4 = .ok (.istore_n 3, 1) := by decide +kernel
theorem dX0_welcome_5 : decode cX0_welcome 5 = .ok (.aload_n 0, 1) := by decide +kernel
theorem dX0_welcome_6 : decode cX0_welcome 6 = .ok (.getfield 9, 3) := by decide +kernel
theorem dX0_welcome_9 : decode cX0_welcome 9 = .ok (.iload_n 3, 1) := by decide +kernel
theorem dX0_welcome_10 : decode cX0_welcome 10 = .ok (.iload_n 1, 1) := by decide +kernel
theorem dX0_welcome_11 : decode cX0_welcome 11 = .ok (.invokestatic 45, 3) := by decide +kernel
theorem dX0_welcome_14 : decode cX0_welcome 14 = .ok (.aload_n 0, 1) := by decide +kernel
theorem dX0_welcome_15 : decode cX0_welcome 15 = .ok (.getfield 15, 3) := by decide +kernel
theorem dX0_welcome_18 : decode cX0_welcome 18 = .ok (.iload_n 3, 1) := by decide +kernel
theorem dX0_welcome_19 : decode cX0_welcome 19 = .ok (.iload_n 2, 1) := by decide +kernel
theorem dX0_welcome_20 : decode cX0_welcome 20 = .ok (.invokestatic 45, 3) := by decide +kernel
theorem dX0_welcome_23 : decode cX0_welcome 23 = .ok (.aload_n 0, 1) := by decide +kernel
theorem dX0_welcome_24 : decode cX0_welcome 24 = .ok (.getfield 18, 3) := by decide +kernel
theorem dX0_welcome_27 : decode cX0_welcome 27 = .ok (.iload_n 3, 1) := by decide +kernel
theorem dX0_welcome_28 : decode cX0_welcome 28 = .ok (.iconst 0, 1) := by decide +kernel
theorem dX0_welcome_29 : decode cX0_welcome 29 = .ok (.invokestatic 45, 3) := by decide +kernel
theorem dX0_welcome_32 : decode cX0_welcome 32 = .ok (.aload_n 0, 1) := by decide +kernel
theorem dX0_welcome_33 : decode cX0_welcome 33 = .ok (.getfield 21, 3) := by decide +kernel
theorem dX0_welcome_36 : decode cX0_welcome 36 = .ok (.iload_n 3, 1) := by decide +kernel
theorem dX0_welcome_37 : decode cX0_welcome 37 = .ok (.iconst (-1), 1) := by decide +kernel
theorem dX0_welcome_38 : decode cX0_welcome 38 = .ok (.invokestatic 45, 3) := by decide +kernel
theorem dX0_welcome_41 : decode cX0_welcome 41 = .ok (.aload_n 0, 1) := by decide +kernel
theorem dX0_welcome_42 : decode cX0_welcome 42 = .ok (.dup, 1) := by decide +kernel
theorem dX0_welcome_43 : decode cX0_welcome 43 = .ok (.getfield 30, 3) := by decide +kernel
theorem dX0_welcome_46 : decode cX0_welcome 46 = .ok (.iconst 1, 1) := by decide +kernel
theorem dX0_welcome_47 : decode cX0_welcome 47 = .ok (.iadd, 1) := by decide +kernel
theorem dX0_welcome_48 : decode cX0_welcome 48 = .ok (.putfield 30, 3) := by decide +kernel
theorem dX0_welcome_51 : decode cX0_welcome 51 = .ok (.iload_n 3, 1) := by decide +kernel
theorem dX0_welcome_52 : decode cX0_welcome 52 = .ok (.ireturn, 1) := by decide +kernel
theorem dX0_go_0 : decode cX0_go 0 = .ok (.aload_n 0, 1) := by decide +kernel
theorem dX0_go_1 : decode cX0_go 1 = .ok (.getfield 9, 3) := by decide +kernel
theorem dX0_go_4 : decode cX0_go 4 = .ok (.iload_n 1, 1) := by decide +kernel
theorem dX0_go_5 : decode cX0_go 5 = .ok (.iload_n 2, 1) := by decide +kernel
theorem dX0_go_6 : decode cX0_go 6 = .ok (.invokestatic 45, 3) := by decide +kernel
theorem dX0_go_9 : decode cX0_go 9 = .ok (.aload_n 0, 1) := by decide +kernel
theorem dX0_go_10 : decode cX0_go 10 = .ok (.getfield 15, 3) := by decide +kernel
theorem dX0_go_13 : decode cX0_go 13 = .ok (.iload_n 1, 1) := by decide +kernel
theorem dX0_go_14 : decode cX0_go 14 = .ok (.aload_n 0, 1) := by decide +kernel
theorem dX0_go_15 : decode cX0_go 15 = .ok (.getfield 15, 3) := by decide +kernel
theorem dX0_go_18 : decode cX0_go 18 = .ok (.iload_n 1, 1) := by decide +kernel
theorem dX0_go_19 : decode cX0_go 19 = .ok (.invokestatic 41, 3) := by decide +kernel
theorem dX0_go_22 : decode cX0_go 22 = .ok (.iload_n 3, 1) := by decide +kernel
theorem dX0_go_23 : decode cX0_go 23 = .ok (.isub, 1) := by decide +kernel
theorem dX0_go_24 : decode cX0_go 24 = .ok (.invokestatic 45, 3) := by decide +kernel
theorem dX0_go_27 : decode cX0_go 27 = .ok (.aload_n 0, 1) := by decide +kernel
theorem dX0_go_28 : decode cX0_go 28 = .ok (.getfield 18, 3) := by decide +kernel
theorem dX0_go_31 : decode cX0_go 31 = .ok (.iload_n 1, 1) := by decide +kernel
theorem dX0_go_32 : decode cX0_go 32 = .ok (.aload_n 0, 1) := by decide +kernel
theorem dX0_go_33 : decode cX0_go 33 = .ok (.getfield 18, 3) := by decide +kernel
theorem dX0_go_36 : decode cX0_go 36 = .ok (.iload_n 1, 1) := by decide +kernel
theorem dX0_go_37 : decode cX0_go 37 = .ok (.invokestatic 41, 3) := by decide +kernel
theorem dX0_go_40 : decode cX0_go 40 = .ok (.iconst 1, 1) := by decide +kernel
theorem dX0_go_41 : decode cX0_go 41 = .ok (.iadd, 1) := by decide +kernel
theorem dX0_go_42 : decode cX0_go 42 = .ok (.invokestatic 45, 3) := by decide +kernel
theorem dX0_go_45 : decode cX0_go 45 = .ok (.return_, 1) := by decide +kernel
theorem dX0_note_0 : decode cX0_note 0 = .ok (.aload_n 0, 1) := by decide +kernel
theorem dX0_note_1 : decode cX0_note 1 = .ok (.getfield 24, 3) := by decide +kernel
theorem dX0_note_4 : decode cX0_note 4 = .ok (.aload_n 0, 1) := by decide +kernel
theorem dX0_note_5 : decode cX0_note 5 = .ok (.getfield 34, 3) := by decide +kernel
theorem dX0_note_8 : decode cX0_note 8 = .ok (.iload_n 1, 1) := by decide +kernel
theorem dX0_note_9 : decode cX0_note 9 = .ok (.invokestatic 45, 3) := by decide +kernel
theorem dX0_note_12 : decode cX0_note 12 = .ok (.aload_n 0, 1) := by decide +kernel
theorem dX0_note_13 : decode cX0_note 13 = .ok (.getfield 27, 3) := by decide +kernel
theorem dX0_note_16 : decode cX0_note 16 = .ok (.aload_n 0, 1) := by decide +kernel
theorem dX0_note_17 : decode cX0_note 17 = .ok (.getfield 34, 3) := by decide +kernel
theorem dX0_note_20 : decode cX0_note 20 = .ok (.iload_n 2, 1) := by decide +kernel
theorem dX0_note_21 : decode cX0_note 21 = .ok (.invokestatic 45, 3) := by decide +kernel
theorem dX0_note_24 : decode cX0_note 24 = .ok (.aload_n 0, 1) := by decide +kernel
theorem dX0_note_25 : decode cX0_note 25 = .ok (.dup, 1) := by decide +kernel
theorem dX0_note_26 : decode cX0_note 26 = .ok (.getfield 34, 3) := by decide +kernel
theorem dX0_note_29 : decode cX0_note 29 = .ok (.iconst 1, 1) := by decide +kernel
theorem dX0_note_30 : decode cX0_note 30 = .ok (.iadd, 1) := by decide +kernel
theorem dX0_note_31 : decode cX0_note 31 = .ok (.putfield 34, 3) := by decide +kernel
theorem dX0_note_34 : decode cX0_note 34 = .ok (.return_, 1) := by decide +kernel
theorem dX0_stepsSinceSpoken_0 : decode cX0_stepsSinceSpoken 0 = .ok (.aload_n 0, 1) := by decide +kernel
theorem dX0_stepsSinceSpoken_1 : decode cX0_stepsSinceSpoken 1 = .ok (.getfield 21, 3) := by decide +kernel
theorem dX0_stepsSinceSpoken_4 : decode cX0_stepsSinceSpoken 4 = .ok (.iload_n 1, 1) := by decide +kernel
theorem dX0_stepsSinceSpoken_5 : decode cX0_stepsSinceSpoken 5 = .ok (.invokestatic 41, 3) := by decide +kernel
theorem dX0_stepsSinceSpoken_8 : decode cX0_stepsSinceSpoken 8 = .ok (.istore_n 2, 1) := by decide +kernel
theorem dX0_stepsSinceSpoken_9 : decode cX0_stepsSinceSpoken 9 = .ok (.iload_n 2, 1) := by decide +kernel
theorem dX0_stepsSinceSpoken_10 : decode cX0_stepsSinceSpoken 10 = .ok (.iconst (-1), 1) := by decide +kernel
theorem dX0_stepsSinceSpoken_11 : decode cX0_stepsSinceSpoken 11 = .ok (.if_icmp .ne 7, 3) := by decide +kernel
theorem dX0_stepsSinceSpoken_14 : decode cX0_stepsSinceSpoken 14 = .ok (.iconst (-1), 1) := by decide +kernel
theorem dX0_stepsSinceSpoken_15 : decode cX0_stepsSinceSpoken 15 = .ok (.goto 13, 3) := by decide +kernel
theorem dX0_stepsSinceSpoken_18 : decode cX0_stepsSinceSpoken 18 = .ok (.aload_n 0, 1) := by decide +kernel
theorem dX0_stepsSinceSpoken_19 : decode cX0_stepsSinceSpoken 19 = .ok (.getfield 18, 3) := by decide +kernel
theorem dX0_stepsSinceSpoken_22 : decode cX0_stepsSinceSpoken 22 = .ok (.iload_n 1, 1) := by decide +kernel
theorem dX0_stepsSinceSpoken_23 : decode cX0_stepsSinceSpoken 23 = .ok (.invokestatic 41, 3) := by decide +kernel
theorem dX0_stepsSinceSpoken_26 : decode cX0_stepsSinceSpoken 26 = .ok (.iload_n 2, 1) := by decide +kernel
theorem dX0_stepsSinceSpoken_27 : decode cX0_stepsSinceSpoken 27 = .ok (.isub, 1) := by decide +kernel
theorem dX0_stepsSinceSpoken_28 : decode cX0_stepsSinceSpoken 28 = .ok (.ireturn, 1) := by decide +kernel
theorem dX0_mayLook_0 : decode cX0_mayLook 0 = .ok (.aload_n 0, 1) := by decide +kernel
theorem dX0_mayLook_1 : decode cX0_mayLook 1 = .ok (.iload_n 1, 1) := by decide +kernel
theorem dX0_mayLook_2 : decode cX0_mayLook 2 = .ok (.invokevirtual 49, 3) := by decide +kernel
theorem dX0_mayLook_5 : decode cX0_mayLook 5 = .ok (.istore_n 2, 1) := by decide +kernel
theorem dX0_mayLook_6 : decode cX0_mayLook 6 = .ok (.aload_n 0, 1) := by decide +kernel
theorem dX0_mayLook_7 : decode cX0_mayLook 7 = .ok (.getfield 15, 3) := by decide +kernel
theorem dX0_mayLook_10 : decode cX0_mayLook 10 = .ok (.iload_n 1, 1) := by decide +kernel
theorem dX0_mayLook_11 : decode cX0_mayLook 11 = .ok (.invokestatic 41, 3) := by decide +kernel
theorem dX0_mayLook_14 : decode cX0_mayLook 14 = .ok (.ifCond .le 17, 3) := by decide +kernel
theorem dX0_mayLook_17 : decode cX0_mayLook 17 = .ok (.iload_n 2, 1) := by decide +kernel
theorem dX0_mayLook_18 : decode cX0_mayLook 18 = .ok (.iconst (-1), 1) := by decide +kernel
theorem dX0_mayLook_19 : decode cX0_mayLook 19 = .ok (.if_icmp .eq 8, 3) := by decide +kernel
theorem dX0_mayLook_22 : decode cX0_mayLook 22 = .ok (.iload_n 2, 1) := by decide +kernel
theorem dX0_mayLook_23 : decode cX0_mayLook 23 = .ok (.iconst 2, 1) := by decide +kernel
theorem dX0_mayLook_24 : decode cX0_mayLook 24 = .ok (.if_icmp .lt 7, 3) := by decide +kernel
theorem dX0_mayLook_27 : decode cX0_mayLook 27 = .ok (.iconst 1, 1) := by decide +kernel
theorem dX0_mayLook_28 : decode cX0_mayLook 28 = .ok (.goto 4, 3) := by decide +kernel
theorem dX0_mayLook_31 : decode cX0_mayLook 31 = .ok (.iconst 0, 1) := by decide +kernel
theorem dX0_mayLook_32 : decode cX0_mayLook 32 = .ok (.ireturn, 1) := by decide +kernel
theorem dX0_partiesAt_0 : decode cX0_partiesAt 0 = .ok (.iconst 0, 1) := by decide +kernel
theorem dX0_partiesAt_1 : decode cX0_partiesAt 1 = .ok (.istore_n 2, 1) := by decide +kernel
theorem dX0_partiesAt_2 : decode cX0_partiesAt 2 = .ok (.iconst 0, 1) := by decide +kernel
theorem dX0_partiesAt_3 : decode cX0_partiesAt 3 = .ok (.istore_n 3, 1) := by decide +kernel
theorem dX0_partiesAt_4 : decode cX0_partiesAt 4 = .ok (.iload_n 3, 1) := by decide +kernel
theorem dX0_partiesAt_5 : decode cX0_partiesAt 5 = .ok (.aload_n 0, 1) := by decide +kernel
theorem dX0_partiesAt_6 : decode cX0_partiesAt 6 = .ok (.getfield 30, 3) := by decide +kernel
theorem dX0_partiesAt_9 : decode cX0_partiesAt 9 = .ok (.if_icmp .ge 27, 3) := by decide +kernel
theorem dX0_partiesAt_12 : decode cX0_partiesAt 12 = .ok (.aload_n 0, 1) := by decide +kernel
theorem dX0_partiesAt_13 : decode cX0_partiesAt 13 = .ok (.getfield 9, 3) := by decide +kernel
theorem dX0_partiesAt_16 : decode cX0_partiesAt 16 = .ok (.iload_n 3, 1) := by decide +kernel
theorem dX0_partiesAt_17 : decode cX0_partiesAt 17 = .ok (.invokestatic 41, 3) := by decide +kernel
theorem dX0_partiesAt_20 : decode cX0_partiesAt 20 = .ok (.iload_n 1, 1) := by decide +kernel
theorem dX0_partiesAt_21 : decode cX0_partiesAt 21 = .ok (.if_icmp .ne 9, 3) := by decide +kernel
theorem dX0_partiesAt_24 : decode cX0_partiesAt 24 = .ok (.iload_n 2, 1) := by decide +kernel
theorem dX0_partiesAt_25 : decode cX0_partiesAt 25 = .ok (.iconst 1, 1) := by decide +kernel
theorem dX0_partiesAt_26 : decode cX0_partiesAt 26 = .ok (.iload_n 3, 1) := by decide +kernel
theorem dX0_partiesAt_27 : decode cX0_partiesAt 27 = .ok (.ishl, 1) := by decide +kernel
theorem dX0_partiesAt_28 : decode cX0_partiesAt 28 = .ok (.ior, 1) := by decide +kernel
theorem dX0_partiesAt_29 : decode cX0_partiesAt 29 = .ok (.istore_n 2, 1) := by decide +kernel
theorem dX0_partiesAt_30 : decode cX0_partiesAt 30 = .ok (.iinc 3 1, 3) := by decide +kernel
theorem dX0_partiesAt_33 : decode cX0_partiesAt 33 = .ok (.goto (-29), 3) := by decide +kernel
theorem dX0_partiesAt_36 : decode cX0_partiesAt 36 = .ok (.iload_n 2, 1) := by decide +kernel
theorem dX0_partiesAt_37 : decode cX0_partiesAt 37 = .ok (.ireturn, 1) := by decide +kernel
theorem dX0_sumOfAll_0 : decode cX0_sumOfAll 0 = .ok (.iconst 0, 1) := by decide +kernel
theorem dX0_sumOfAll_1 : decode cX0_sumOfAll 1 = .ok (.istore_n 2, 1) := by decide +kernel
theorem dX0_sumOfAll_2 : decode cX0_sumOfAll 2 = .ok (.iconst 0, 1) := by decide +kernel
theorem dX0_sumOfAll_3 : decode cX0_sumOfAll 3 = .ok (.istore_n 3, 1) := by decide +kernel
theorem dX0_sumOfAll_4 : decode cX0_sumOfAll 4 = .ok (.iload_n 3, 1) := by decide +kernel
theorem dX0_sumOfAll_5 : decode cX0_sumOfAll 5 = .ok (.aload_n 0, 1) := by decide +kernel
theorem dX0_sumOfAll_6 : decode cX0_sumOfAll 6 = .ok (.getfield 30, 3) := by decide +kernel
theorem dX0_sumOfAll_9 : decode cX0_sumOfAll 9 = .ok (.if_icmp .ge 17, 3) := by decide +kernel
theorem dX0_sumOfAll_12 : decode cX0_sumOfAll 12 = .ok (.iload_n 2, 1) := by decide +kernel
theorem dX0_sumOfAll_13 : decode cX0_sumOfAll 13 = .ok (.aload_n 1, 1) := by decide +kernel
theorem dX0_sumOfAll_14 : decode cX0_sumOfAll 14 = .ok (.iload_n 3, 1) := by decide +kernel
theorem dX0_sumOfAll_15 : decode cX0_sumOfAll 15 = .ok (.invokestatic 41, 3) := by decide +kernel
theorem dX0_sumOfAll_18 : decode cX0_sumOfAll 18 = .ok (.iadd, 1) := by decide +kernel
theorem dX0_sumOfAll_19 : decode cX0_sumOfAll 19 = .ok (.istore_n 2, 1) := by decide +kernel
theorem dX0_sumOfAll_20 : decode cX0_sumOfAll 20 = .ok (.iinc 3 1, 3) := by decide +kernel
theorem dX0_sumOfAll_23 : decode cX0_sumOfAll 23 = .ok (.goto (-19), 3) := by decide +kernel
theorem dX0_sumOfAll_26 : decode cX0_sumOfAll 26 = .ok (.iload_n 2, 1) := by decide +kernel
theorem dX0_sumOfAll_27 : decode cX0_sumOfAll 27 = .ok (.ireturn, 1) := by decide +kernel
theorem dX0_thoseWhoMayLook_0 : decode cX0_thoseWhoMayLook 0 = .ok (.iconst 0, 1) := by decide +kernel
theorem dX0_thoseWhoMayLook_1 : decode cX0_thoseWhoMayLook 1 = .ok (.istore_n 1, 1) := by decide +kernel
theorem dX0_thoseWhoMayLook_2 : decode cX0_thoseWhoMayLook 2 = .ok (.iconst 0, 1) := by decide +kernel
theorem dX0_thoseWhoMayLook_3 : decode cX0_thoseWhoMayLook 3 = .ok (.istore_n 2, 1) := by decide +kernel
theorem dX0_thoseWhoMayLook_4 : decode cX0_thoseWhoMayLook 4 = .ok (.iload_n 2, 1) := by decide +kernel
theorem dX0_thoseWhoMayLook_5 : decode cX0_thoseWhoMayLook 5 = .ok (.aload_n 0, 1) := by decide +kernel
theorem dX0_thoseWhoMayLook_6 : decode cX0_thoseWhoMayLook 6 = .ok (.getfield 30, 3) := by decide +kernel
theorem dX0_thoseWhoMayLook_9 : decode cX0_thoseWhoMayLook 9 = .ok (.if_icmp .ge 20, 3) := by decide +kernel
theorem dX0_thoseWhoMayLook_12 : decode cX0_thoseWhoMayLook 12 = .ok (.aload_n 0, 1) := by decide +kernel
theorem dX0_thoseWhoMayLook_13 : decode cX0_thoseWhoMayLook 13 = .ok (.iload_n 2, 1) := by decide +kernel
theorem dX0_thoseWhoMayLook_14 : decode cX0_thoseWhoMayLook 14 = .ok (.invokevirtual 53, 3) := by decide +kernel
theorem dX0_thoseWhoMayLook_17 : decode cX0_thoseWhoMayLook 17 = .ok (.ifCond .eq 6, 3) := by decide +kernel
theorem dX0_thoseWhoMayLook_20 : decode cX0_thoseWhoMayLook 20 = .ok (.iinc 1 1, 3) := by decide +kernel
theorem dX0_thoseWhoMayLook_23 : decode cX0_thoseWhoMayLook 23 = .ok (.iinc 2 1, 3) := by decide +kernel
theorem dX0_thoseWhoMayLook_26 : decode cX0_thoseWhoMayLook 26 = .ok (.goto (-22), 3) := by decide +kernel
theorem dX0_thoseWhoMayLook_29 : decode cX0_thoseWhoMayLook 29 = .ok (.iload_n 1, 1) := by decide +kernel
theorem dX0_thoseWhoMayLook_30 : decode cX0_thoseWhoMayLook 30 = .ok (.ireturn, 1) := by decide +kernel
theorem dX1_init_0 : decode cX1_init 0 = .ok (.aload_n 0, 1) := by decide +kernel
theorem dX1_init_1 : decode cX1_init 1 = .ok (.invokespecial 3, 3) := by decide +kernel
theorem dX1_init_4 : decode cX1_init 4 = .ok (.aload_n 0, 1) := by decide +kernel
theorem dX1_init_5 : decode cX1_init 5 = .ok (.bipush 6, 2) := by decide +kernel
theorem dX1_init_7 : decode cX1_init 7 = .ok (.newarray .int, 2) := by decide +kernel
theorem dX1_init_9 : decode cX1_init 9 = .ok (.putfield 9, 3) := by decide +kernel
theorem dX1_init_12 : decode cX1_init 12 = .ok (.aload_n 0, 1) := by decide +kernel
theorem dX1_init_13 : decode cX1_init 13 = .ok (.bipush 6, 2) := by decide +kernel
theorem dX1_init_15 : decode cX1_init 15 = .ok (.newarray .int, 2) := by decide +kernel
theorem dX1_init_17 : decode cX1_init 17 = .ok (.putfield 15, 3) := by decide +kernel
theorem dX1_init_20 : decode cX1_init 20 = .ok (.aload_n 0, 1) := by decide +kernel
theorem dX1_init_21 : decode cX1_init 21 = .ok (.bipush 6, 2) := by decide +kernel
theorem dX1_init_23 : decode cX1_init 23 = .ok (.newarray .int, 2) := by decide +kernel
theorem dX1_init_25 : decode cX1_init 25 = .ok (.putfield 18, 3) := by decide +kernel
theorem dX1_init_28 : decode cX1_init 28 = .ok (.return_, 1) := by decide +kernel
theorem dX1_readFrom_0 : decode cX1_readFrom 0 = .ok (.aload_n 0, 1) := by decide +kernel
theorem dX1_readFrom_1 : decode cX1_readFrom 1 = .ok (.aload_n 1, 1) := by decide +kernel
theorem dX1_readFrom_2 : decode cX1_readFrom 2 = .ok (.getfield 21, 3) := by decide +kernel
theorem dX1_readFrom_5 : decode cX1_readFrom 5 = .ok (.iconst 4, 1) := by decide +kernel
theorem dX1_readFrom_6 : decode cX1_readFrom 6 = .ok (.idiv, 1) := by decide +kernel
theorem dX1_readFrom_7 : decode cX1_readFrom 7 = .ok (.putfield 27, 3) := by decide +kernel
theorem dX1_readFrom_10 : decode cX1_readFrom 10 = .ok (.aload_n 0, 1) := by decide +kernel
theorem dX1_readFrom_11 : decode cX1_readFrom 11 = .ok (.aload_n 1, 1) := by decide +kernel
theorem dX1_readFrom_12 : decode cX1_readFrom 12 = .ok (.aload_n 1, 1) := by decide +kernel
theorem dX1_readFrom_13 : decode cX1_readFrom 13 = .ok (.getfield 21, 3) := by decide +kernel
theorem dX1_readFrom_16 : decode cX1_readFrom 16 = .ok (.iconst 1, 1) := by decide +kernel
theorem dX1_readFrom_17 : decode cX1_readFrom 17 = .ok (.isub, 1) := by decide +kernel
theorem dX1_readFrom_18 : decode cX1_readFrom 18 = .ok (.invokevirtual 28, 3) := by decide +kernel
theorem dX1_readFrom_21 : decode cX1_readFrom 21 = .ok (.putfield 32, 3) := by decide +kernel
theorem dX1_readFrom_24 : decode cX1_readFrom 24 = .ok (.iconst 0, 1) := by decide +kernel
theorem dX1_readFrom_25 : decode cX1_readFrom 25 = .ok (.istore_n 2, 1) := by decide +kernel
theorem dX1_readFrom_26 : decode cX1_readFrom 26 = .ok (.iload_n 2, 1) := by decide +kernel
theorem dX1_readFrom_27 : decode cX1_readFrom 27 = .ok (.aload_n 0, 1) := by decide +kernel
theorem dX1_readFrom_28 : decode cX1_readFrom 28 = .ok (.getfield 27, 3) := by decide +kernel
theorem dX1_readFrom_31 : decode cX1_readFrom 31 = .ok (.if_icmp .ge 98, 3) := by decide +kernel
theorem dX1_readFrom_34 : decode cX1_readFrom 34 = .ok (.aload_n 0, 1) := by decide +kernel
theorem dX1_readFrom_35 : decode cX1_readFrom 35 = .ok (.getfield 9, 3) := by decide +kernel
theorem dX1_readFrom_38 : decode cX1_readFrom 38 = .ok (.iload_n 2, 1) := by decide +kernel
theorem dX1_readFrom_39 : decode cX1_readFrom 39 = .ok (.aload_n 1, 1) := by decide +kernel
theorem dX1_readFrom_40 : decode cX1_readFrom 40 = .ok (.iconst 4, 1) := by decide +kernel
theorem dX1_readFrom_41 : decode cX1_readFrom 41 = .ok (.iload_n 2, 1) := by decide +kernel
theorem dX1_readFrom_42 : decode cX1_readFrom 42 = .ok (.imul, 1) := by decide +kernel
theorem dX1_readFrom_43 : decode cX1_readFrom 43 = .ok (.invokevirtual 35, 3) := by decide +kernel
theorem dX1_readFrom_46 : decode cX1_readFrom 46 = .ok (.invokestatic 38, 3) := by decide +kernel
theorem dX1_readFrom_49 : decode cX1_readFrom 49 = .ok (.invokestatic 41, 3) := by decide +kernel
theorem dX1_readFrom_52 : decode cX1_readFrom 52 = .ok (.aload_n 0, 1) := by decide +kernel
theorem dX1_readFrom_53 : decode cX1_readFrom 53 = .ok (.iload_n 2, 1) := by decide +kernel
theorem dX1_readFrom_54 : decode cX1_readFrom 54 = .ok (.invokevirtual 45, 3) := by decide +kernel
theorem dX1_readFrom_57 : decode cX1_readFrom 57 = .ok (.iconst 2, 1) := by decide +kernel
theorem dX1_readFrom_58 : decode cX1_readFrom 58 = .ok (.if_icmp .ne 7, 3) := by decide +kernel
theorem dX1_readFrom_61 : decode cX1_readFrom 61 = .ok (.iconst 1, 1) := by decide +kernel
theorem dX1_readFrom_62 : decode cX1_readFrom 62 = .ok (.goto 4, 3) := by decide +kernel
theorem dX1_readFrom_65 : decode cX1_readFrom 65 = .ok (.iconst 0, 1) := by decide +kernel
theorem dX1_readFrom_66 : decode cX1_readFrom 66 = .ok (.istore_n 3, 1) := by decide +kernel
theorem dX1_readFrom_67 : decode cX1_readFrom 67 = .ok (.iload_n 3, 1) := by decide +kernel
theorem dX1_readFrom_68 : decode cX1_readFrom 68 = .ok (.ifCond .eq 10, 3) := by decide +kernel
theorem dX1_readFrom_71 : decode cX1_readFrom 71 = .ok (.aload_n 0, 1) := by decide +kernel
theorem dX1_readFrom_72 : decode cX1_readFrom 72 = .ok (.getfield 18, 3) := by decide +kernel
theorem dX1_readFrom_75 : decode cX1_readFrom 75 = .ok (.goto 7, 3) := by decide +kernel
theorem dX1_readFrom_78 : decode cX1_readFrom 78 = .ok (.aload_n 0, 1) := by decide +kernel
theorem dX1_readFrom_79 : decode cX1_readFrom 79 = .ok (.getfield 15, 3) := by decide +kernel
theorem dX1_readFrom_82 : decode cX1_readFrom 82 = .ok (.iload_n 2, 1) := by decide +kernel
theorem dX1_readFrom_83 : decode cX1_readFrom 83 = .ok (.aload_n 1, 1) := by decide +kernel
theorem dX1_readFrom_84 : decode cX1_readFrom 84 = .ok (.iconst 4, 1) := by decide +kernel
theorem dX1_readFrom_85 : decode cX1_readFrom 85 = .ok (.iload_n 2, 1) := by decide +kernel
theorem dX1_readFrom_86 : decode cX1_readFrom 86 = .ok (.imul, 1) := by decide +kernel
theorem dX1_readFrom_87 : decode cX1_readFrom 87 = .ok (.iconst 1, 1) := by decide +kernel
theorem dX1_readFrom_88 : decode cX1_readFrom 88 = .ok (.iadd, 1) := by decide +kernel
theorem dX1_readFrom_89 : decode cX1_readFrom 89 = .ok (.invokevirtual 28, 3) := by decide +kernel
theorem dX1_readFrom_92 : decode cX1_readFrom 92 = .ok (.invokestatic 41, 3) := by decide +kernel
theorem dX1_readFrom_95 : decode cX1_readFrom 95 = .ok (.iload_n 3, 1) := by decide +kernel
theorem dX1_readFrom_96 : decode cX1_readFrom 96 = .ok (.ifCond .eq 10, 3) := by decide +kernel
theorem dX1_readFrom_99 : decode cX1_readFrom 99 = .ok (.aload_n 0, 1) := by decide +kernel
theorem dX1_readFrom_100 : decode cX1_readFrom 100 = .ok (.getfield 15, 3) := by decide +kernel
theorem dX1_readFrom_103 : decode cX1_readFrom 103 = .ok (.goto 7, 3) := by decide +kernel
theorem dX1_readFrom_106 : decode cX1_readFrom 106 = .ok (.aload_n 0, 1) := by decide +kernel
theorem dX1_readFrom_107 : decode cX1_readFrom 107 = .ok (.getfield 18, 3) := by decide +kernel
theorem dX1_readFrom_110 : decode cX1_readFrom 110 = .ok (.iload_n 2, 1) := by decide +kernel
theorem dX1_readFrom_111 : decode cX1_readFrom 111 = .ok (.aload_n 1, 1) := by decide +kernel
theorem dX1_readFrom_112 : decode cX1_readFrom 112 = .ok (.iconst 4, 1) := by decide +kernel
theorem dX1_readFrom_113 : decode cX1_readFrom 113 = .ok (.iload_n 2, 1) := by decide +kernel
theorem dX1_readFrom_114 : decode cX1_readFrom 114 = .ok (.imul, 1) := by decide +kernel
theorem dX1_readFrom_115 : decode cX1_readFrom 115 = .ok (.iconst 2, 1) := by decide +kernel
theorem dX1_readFrom_116 : decode cX1_readFrom 116 = .ok (.iadd, 1) := by decide +kernel
theorem dX1_readFrom_117 : decode cX1_readFrom 117 = .ok (.invokevirtual 28, 3) := by decide +kernel
theorem dX1_readFrom_120 : decode cX1_readFrom 120 = .ok (.invokestatic 41, 3) := by decide +kernel
theorem dX1_readFrom_123 : decode cX1_readFrom 123 = .ok (.iinc 2 1, 3) := by decide +kernel
theorem dX1_readFrom_126 : decode cX1_readFrom 126 = .ok (.goto (-100), 3) := by decide +kernel
theorem dX1_readFrom_129 : decode cX1_readFrom 129 = .ok (.return_, 1) := by decide +kernel
theorem dX1_isThere_0 : decode cX1_isThere 0 = .ok (.aload_n 0, 1) := by decide +kernel
theorem dX1_isThere_1 : decode cX1_isThere 1 = .ok (.getfield 27, 3) := by decide +kernel
theorem dX1_isThere_4 : decode cX1_isThere 4 = .ok (.ifCond .le 7, 3) := by decide +kernel
theorem dX1_isThere_7 : decode cX1_isThere 7 = .ok (.iconst 1, 1) := by decide +kernel
theorem dX1_isThere_8 : decode cX1_isThere 8 = .ok (.goto 4, 3) := by decide +kernel
theorem dX1_isThere_11 : decode cX1_isThere 11 = .ok (.iconst 0, 1) := by decide +kernel
theorem dX1_isThere_12 : decode cX1_isThere 12 = .ok (.ireturn, 1) := by decide +kernel
theorem dX1_has_0 : decode cX1_has 0 = .ok (.iload_n 1, 1) := by decide +kernel
theorem dX1_has_1 : decode cX1_has 1 = .ok (.ifCond .lt 15, 3) := by decide +kernel
theorem dX1_has_4 : decode cX1_has 4 = .ok (.iload_n 1, 1) := by decide +kernel
theorem dX1_has_5 : decode cX1_has 5 = .ok (.aload_n 0, 1) := by decide +kernel
theorem dX1_has_6 : decode cX1_has 6 = .ok (.getfield 27, 3) := by decide +kernel
theorem dX1_has_9 : decode cX1_has 9 = .ok (.if_icmp .ge 7, 3) := by decide +kernel
theorem dX1_has_12 : decode cX1_has 12 = .ok (.iconst 1, 1) := by decide +kernel
theorem dX1_has_13 : decode cX1_has 13 = .ok (.goto 4, 3) := by decide +kernel
theorem dX1_has_16 : decode cX1_has 16 = .ok (.iconst 0, 1) := by decide +kernel
theorem dX1_has_17 : decode cX1_has 17 = .ok (.ireturn, 1) := by decide +kernel
theorem dX1_kindOf_0 : decode cX1_kindOf 0 = .ok (.aload_n 0, 1) := by decide +kernel
theorem dX1_kindOf_1 : decode cX1_kindOf 1 = .ok (.getfield 9, 3) := by decide +kernel
theorem dX1_kindOf_4 : decode cX1_kindOf 4 = .ok (.iload_n 1, 1) := by decide +kernel
theorem dX1_kindOf_5 : decode cX1_kindOf 5 = .ok (.invokestatic 48, 3) := by decide +kernel
theorem dX1_kindOf_8 : decode cX1_kindOf 8 = .ok (.ireturn, 1) := by decide +kernel
theorem dX1_leadsTo_0 : decode cX1_leadsTo 0 = .ok (.iload_n 2, 1) := by decide +kernel
theorem dX1_leadsTo_1 : decode cX1_leadsTo 1 = .ok (.ifCond .ne 10, 3) := by decide +kernel
theorem dX1_leadsTo_4 : decode cX1_leadsTo 4 = .ok (.aload_n 0, 1) := by decide +kernel
theorem dX1_leadsTo_5 : decode cX1_leadsTo 5 = .ok (.getfield 15, 3) := by decide +kernel
theorem dX1_leadsTo_8 : decode cX1_leadsTo 8 = .ok (.goto 7, 3) := by decide +kernel
theorem dX1_leadsTo_11 : decode cX1_leadsTo 11 = .ok (.aload_n 0, 1) := by decide +kernel
theorem dX1_leadsTo_12 : decode cX1_leadsTo 12 = .ok (.getfield 18, 3) := by decide +kernel
theorem dX1_leadsTo_15 : decode cX1_leadsTo 15 = .ok (.iload_n 1, 1) := by decide +kernel
theorem dX1_leadsTo_16 : decode cX1_leadsTo 16 = .ok (.invokestatic 48, 3) := by decide +kernel
theorem dX1_leadsTo_19 : decode cX1_leadsTo 19 = .ok (.ireturn, 1) := by decide +kernel
theorem dX1_soundOf_0 : decode cX1_soundOf 0 = .ok (.aload_n 0, 1) := by decide +kernel
theorem dX1_soundOf_1 : decode cX1_soundOf 1 = .ok (.iload_n 1, 1) := by decide +kernel
theorem dX1_soundOf_2 : decode cX1_soundOf 2 = .ok (.invokevirtual 45, 3) := by decide +kernel
theorem dX1_soundOf_5 : decode cX1_soundOf 5 = .ok (.lookupswitch 31 #[(1, 27), (4, 29)], 27) := by decide +kernel
theorem dX1_soundOf_32 : decode cX1_soundOf 32 = .ok (.iconst 1, 1) := by decide +kernel
theorem dX1_soundOf_33 : decode cX1_soundOf 33 = .ok (.ireturn, 1) := by decide +kernel
theorem dX1_soundOf_34 : decode cX1_soundOf 34 = .ok (.iconst 2, 1) := by decide +kernel
theorem dX1_soundOf_35 : decode cX1_soundOf 35 = .ok (.ireturn, 1) := by decide +kernel
theorem dX1_soundOf_36 : decode cX1_soundOf 36 = .ok (.iconst 0, 1) := by decide +kernel
theorem dX1_soundOf_37 : decode cX1_soundOf 37 = .ok (.ireturn, 1) := by decide +kernel
theorem dX1_oilTo_0 : decode cX1_oilTo 0 = .ok (.aload_n 0, 1) := by decide +kernel
theorem dX1_oilTo_1 : decode cX1_oilTo 1 = .ok (.iload_n 1, 1) := by decide +kernel
theorem dX1_oilTo_2 : decode cX1_oilTo 2 = .ok (.invokevirtual 45, 3) := by decide +kernel
theorem dX1_oilTo_5 : decode cX1_oilTo 5 = .ok (.iconst 3, 1) := by decide +kernel
theorem dX1_oilTo_6 : decode cX1_oilTo 6 = .ok (.if_icmp .ne 7, 3) := by decide +kernel
theorem dX1_oilTo_9 : decode cX1_oilTo 9 = .ok (.iconst 3, 1) := by decide +kernel
theorem dX1_oilTo_10 : decode cX1_oilTo 10 = .ok (.goto 4, 3) := by decide +kernel
theorem dX1_oilTo_13 : decode cX1_oilTo 13 = .ok (.iconst 1, 1) := by decide +kernel
theorem dX1_oilTo_14 : decode cX1_oilTo 14 = .ok (.ireturn, 1) := by decide +kernel
theorem dX1_placesBy_0 : decode cX1_placesBy 0 = .ok (.iconst 1, 1) := by decide +kernel
theorem dX1_placesBy_1 : decode cX1_placesBy 1 = .ok (.aload_n 0, 1) := by decide +kernel
theorem dX1_placesBy_2 : decode cX1_placesBy 2 = .ok (.getfield 27, 3) := by decide +kernel
theorem dX1_placesBy_5 : decode cX1_placesBy 5 = .ok (.ishl, 1) := by decide +kernel
theorem dX1_placesBy_6 : decode cX1_placesBy 6 = .ok (.iconst 1, 1) := by decide +kernel
theorem dX1_placesBy_7 : decode cX1_placesBy 7 = .ok (.isub, 1) := by decide +kernel
theorem dX1_placesBy_8 : decode cX1_placesBy 8 = .ok (.istore_n 2, 1) := by decide +kernel
theorem dX1_placesBy_9 : decode cX1_placesBy 9 = .ok (.iconst 0, 1) := by decide +kernel
theorem dX1_placesBy_10 : decode cX1_placesBy 10 = .ok (.istore_n 3, 1) := by decide +kernel
theorem dX1_placesBy_11 : decode cX1_placesBy 11 = .ok (.iload_n 3, 1) := by decide +kernel
theorem dX1_placesBy_12 : decode cX1_placesBy 12 = .ok (.aload_n 1, 1) := by decide +kernel
theorem dX1_placesBy_13 : decode cX1_placesBy 13 = .ok (.getfield 52, 3) := by decide +kernel
theorem dX1_placesBy_16 : decode cX1_placesBy 16 = .ok (.if_icmp .ge 41, 3) := by decide +kernel
theorem dX1_placesBy_19 : decode cX1_placesBy 19 = .ok (.iload_n 3, 1) := by decide +kernel
theorem dX1_placesBy_20 : decode cX1_placesBy 20 = .ok (.ifCond .le 17, 3) := by decide +kernel
theorem dX1_placesBy_23 : decode cX1_placesBy 23 = .ok (.aload_n 0, 1) := by decide +kernel
theorem dX1_placesBy_24 : decode cX1_placesBy 24 = .ok (.iload_n 2, 1) := by decide +kernel
theorem dX1_placesBy_25 : decode cX1_placesBy 25 = .ok (.aload_n 1, 1) := by decide +kernel
theorem dX1_placesBy_26 : decode cX1_placesBy 26 = .ok (.getfield 57, 3) := by decide +kernel
theorem dX1_placesBy_29 : decode cX1_placesBy 29 = .ok (.iload_n 3, 1) := by decide +kernel
theorem dX1_placesBy_30 : decode cX1_placesBy 30 = .ok (.invokestatic 48, 3) := by decide +kernel
theorem dX1_placesBy_33 : decode cX1_placesBy 33 = .ok (.invokevirtual 60, 3) := by decide +kernel
theorem dX1_placesBy_36 : decode cX1_placesBy 36 = .ok (.istore_n 2, 1) := by decide +kernel
theorem dX1_placesBy_37 : decode cX1_placesBy 37 = .ok (.aload_n 0, 1) := by decide +kernel
theorem dX1_placesBy_38 : decode cX1_placesBy 38 = .ok (.iload_n 2, 1) := by decide +kernel
theorem dX1_placesBy_39 : decode cX1_placesBy 39 = .ok (.aload_n 1, 1) := by decide +kernel
theorem dX1_placesBy_40 : decode cX1_placesBy 40 = .ok (.getfield 64, 3) := by decide +kernel
theorem dX1_placesBy_43 : decode cX1_placesBy 43 = .ok (.iload_n 3, 1) := by decide +kernel
theorem dX1_placesBy_44 : decode cX1_placesBy 44 = .ok (.invokestatic 48, 3) := by decide +kernel
theorem dX1_placesBy_47 : decode cX1_placesBy 47 = .ok (.invokevirtual 67, 3) := by decide +kernel
theorem dX1_placesBy_50 : decode cX1_placesBy 50 = .ok (.istore_n 2, 1) := by decide +kernel
theorem dX1_placesBy_51 : decode cX1_placesBy 51 = .ok (.iinc 3 1, 3) := by decide +kernel
theorem dX1_placesBy_54 : decode cX1_placesBy 54 = .ok (.goto (-43), 3) := by decide +kernel
theorem dX1_placesBy_57 : decode cX1_placesBy 57 = .ok (.iload_n 2, 1) := by decide +kernel
theorem dX1_placesBy_58 : decode cX1_placesBy 58 = .ok (.ireturn, 1) := by decide +kernel
theorem dX1_mostLeft_0 : decode cX1_mostLeft 0 = .ok (.aload_n 0, 1) := by decide +kernel
theorem dX1_mostLeft_1 : decode cX1_mostLeft 1 = .ok (.iload_n 1, 1) := by decide +kernel
theorem dX1_mostLeft_2 : decode cX1_mostLeft 2 = .ok (.iload_n 2, 1) := by decide +kernel
theorem dX1_mostLeft_3 : decode cX1_mostLeft 3 = .ok (.invokevirtual 60, 3) := by decide +kernel
theorem dX1_mostLeft_6 : decode cX1_mostLeft 6 = .ok (.istore_n 3, 1) := by decide +kernel
theorem dX1_mostLeft_7 : decode cX1_mostLeft 7 = .ok (.iconst 0, 1) := by decide +kernel
theorem dX1_mostLeft_8 : decode cX1_mostLeft 8 = .ok (.istore 4, 2) := by decide +kernel
theorem dX1_mostLeft_10 : decode cX1_mostLeft 10 = .ok (.iconst 0, 1) := by decide +kernel
theorem dX1_mostLeft_11 : decode cX1_mostLeft 11 = .ok (.istore 5, 2) := by decide +kernel
theorem dX1_mostLeft_13 : decode cX1_mostLeft 13 = .ok (.iload 5, 2) := by decide +kernel
theorem dX1_mostLeft_15 : decode cX1_mostLeft 15 = .ok (.iconst 3, 1) := by decide +kernel
theorem dX1_mostLeft_16 : decode cX1_mostLeft 16 = .ok (.if_icmp .ge 26, 3) := by decide +kernel
theorem dX1_mostLeft_19 : decode cX1_mostLeft 19 = .ok (.iload 4, 2) := by decide +kernel
theorem dX1_mostLeft_21 : decode cX1_mostLeft 21 = .ok (.aload_n 0, 1) := by decide +kernel
theorem dX1_mostLeft_22 : decode cX1_mostLeft 22 = .ok (.iload_n 3, 1) := by decide +kernel
theorem dX1_mostLeft_23 : decode cX1_mostLeft 23 = .ok (.iload 5, 2) := by decide +kernel
theorem dX1_mostLeft_25 : decode cX1_mostLeft 25 = .ok (.invokevirtual 67, 3) := by decide +kernel
theorem dX1_mostLeft_28 : decode cX1_mostLeft 28 = .ok (.invokestatic 70, 3) := by decide +kernel
theorem dX1_mostLeft_31 : decode cX1_mostLeft 31 = .ok (.invokestatic 75, 3) := by decide +kernel
theorem dX1_mostLeft_34 : decode cX1_mostLeft 34 = .ok (.istore 4, 2) := by decide +kernel
theorem dX1_mostLeft_36 : decode cX1_mostLeft 36 = .ok (.iinc 5 1, 3) := by decide +kernel
theorem dX1_mostLeft_39 : decode cX1_mostLeft 39 = .ok (.goto (-26), 3) := by decide +kernel
theorem dX1_mostLeft_42 : decode cX1_mostLeft 42 = .ok (.iload 4, 2) := by decide +kernel
theorem dX1_mostLeft_44 : decode cX1_mostLeft 44 = .ok (.ireturn, 1) := by decide +kernel
theorem dX1_placesAfter_0 : decode cX1_placesAfter 0 = .ok (.iconst 0, 1) := by decide +kernel
theorem dX1_placesAfter_1 : decode cX1_placesAfter 1 = .ok (.istore_n 3, 1) := by decide +kernel
theorem dX1_placesAfter_2 : decode cX1_placesAfter 2 = .ok (.iconst 0, 1) := by decide +kernel
theorem dX1_placesAfter_3 : decode cX1_placesAfter 3 = .ok (.istore 4, 2) := by decide +kernel
theorem dX1_placesAfter_5 : decode cX1_placesAfter 5 = .ok (.iload 4, 2) := by decide +kernel
theorem dX1_placesAfter_7 : decode cX1_placesAfter 7 = .ok (.aload_n 0, 1) := by decide +kernel
theorem dX1_placesAfter_8 : decode cX1_placesAfter 8 = .ok (.getfield 27, 3) := by decide +kernel
theorem dX1_placesAfter_11 : decode cX1_placesAfter 11 = .ok (.if_icmp .ge 30, 3) := by decide +kernel
theorem dX1_placesAfter_14 : decode cX1_placesAfter 14 = .ok (.iload_n 1, 1) := by decide +kernel
theorem dX1_placesAfter_15 : decode cX1_placesAfter 15 = .ok (.iload 4, 2) := by decide +kernel
theorem dX1_placesAfter_17 : decode cX1_placesAfter 17 = .ok (.invokestatic 80, 3) := by decide +kernel
theorem dX1_placesAfter_20 : decode cX1_placesAfter 20 = .ok (.ifCond .eq 15, 3) := by decide +kernel
theorem dX1_placesAfter_23 : decode cX1_placesAfter 23 = .ok (.iload_n 3, 1) := by decide +kernel
theorem dX1_placesAfter_24 : decode cX1_placesAfter 24 = .ok (.iconst 1, 1) := by decide +kernel
theorem dX1_placesAfter_25 : decode cX1_placesAfter 25 = .ok (.aload_n 0, 1) := by decide +kernel
theorem dX1_placesAfter_26 : decode cX1_placesAfter 26 = .ok (.iload 4, 2) := by decide +kernel
theorem dX1_placesAfter_28 : decode cX1_placesAfter 28 = .ok (.iload_n 2, 1) := by decide +kernel
theorem dX1_placesAfter_29 : decode cX1_placesAfter 29 = .ok (.invokevirtual 84, 3) := by decide +kernel
theorem dX1_placesAfter_32 : decode cX1_placesAfter 32 = .ok (.ishl, 1) := by decide +kernel
theorem dX1_placesAfter_33 : decode cX1_placesAfter 33 = .ok (.ior, 1) := by decide +kernel
theorem dX1_placesAfter_34 : decode cX1_placesAfter 34 = .ok (.istore_n 3, 1) := by decide +kernel
theorem dX1_placesAfter_35 : decode cX1_placesAfter 35 = .ok (.iinc 4 1, 3) := by decide +kernel
theorem dX1_placesAfter_38 : decode cX1_placesAfter 38 = .ok (.goto (-33), 3) := by decide +kernel
theorem dX1_placesAfter_41 : decode cX1_placesAfter 41 = .ok (.iload_n 3, 1) := by decide +kernel
theorem dX1_placesAfter_42 : decode cX1_placesAfter 42 = .ok (.ireturn, 1) := by decide +kernel
theorem dX1_placesOfSound_0 : decode cX1_placesOfSound 0 = .ok (.iconst 0, 1) := by decide +kernel
theorem dX1_placesOfSound_1 : decode cX1_placesOfSound 1 = .ok (.istore_n 3, 1) := by decide +kernel
theorem dX1_placesOfSound_2 : decode cX1_placesOfSound 2 = .ok (.iconst 0, 1) := by decide +kernel
theorem dX1_placesOfSound_3 : decode cX1_placesOfSound 3 = .ok (.istore 4, 2) := by decide +kernel
theorem dX1_placesOfSound_5 : decode cX1_placesOfSound 5 = .ok (.iload 4, 2) := by decide +kernel
theorem dX1_placesOfSound_7 : decode cX1_placesOfSound 7 = .ok (.aload_n 0, 1) := by decide +kernel
theorem dX1_placesOfSound_8 : decode cX1_placesOfSound 8 = .ok (.getfield 27, 3) := by decide +kernel
theorem dX1_placesOfSound_11 : decode cX1_placesOfSound 11 = .ok (.if_icmp .ge 35, 3) := by decide +kernel
theorem dX1_placesOfSound_14 : decode cX1_placesOfSound 14 = .ok (.iload_n 1, 1) := by decide +kernel
theorem dX1_placesOfSound_15 : decode cX1_placesOfSound 15 = .ok (.iload 4, 2) := by decide +kernel
theorem dX1_placesOfSound_17 : decode cX1_placesOfSound 17 = .ok (.invokestatic 80, 3) := by decide +kernel
theorem dX1_placesOfSound_20 : decode cX1_placesOfSound 20 = .ok (.ifCond .eq 20, 3) := by decide +kernel
theorem dX1_placesOfSound_23 : decode cX1_placesOfSound 23 = .ok (.aload_n 0, 1) := by decide +kernel
theorem dX1_placesOfSound_24 : decode cX1_placesOfSound 24 = .ok (.iload 4, 2) := by decide +kernel
theorem dX1_placesOfSound_26 : decode cX1_placesOfSound 26 = .ok (.invokevirtual 87, 3) := by decide +kernel
theorem dX1_placesOfSound_29 : decode cX1_placesOfSound 29 = .ok (.iload_n 2, 1) := by decide +kernel
theorem dX1_placesOfSound_30 : decode cX1_placesOfSound 30 = .ok (.if_icmp .ne 10, 3) := by decide +kernel
theorem dX1_placesOfSound_33 : decode cX1_placesOfSound 33 = .ok (.iload_n 3, 1) := by decide +kernel
theorem dX1_placesOfSound_34 : decode cX1_placesOfSound 34 = .ok (.iconst 1, 1) := by decide +kernel
theorem dX1_placesOfSound_35 : decode cX1_placesOfSound 35 = .ok (.iload 4, 2) := by decide +kernel
theorem dX1_placesOfSound_37 : decode cX1_placesOfSound 37 = .ok (.ishl, 1) := by decide +kernel
theorem dX1_placesOfSound_38 : decode cX1_placesOfSound 38 = .ok (.ior, 1) := by decide +kernel
theorem dX1_placesOfSound_39 : decode cX1_placesOfSound 39 = .ok (.istore_n 3, 1) := by decide +kernel
theorem dX1_placesOfSound_40 : decode cX1_placesOfSound 40 = .ok (.iinc 4 1, 3) := by decide +kernel
theorem dX1_placesOfSound_43 : decode cX1_placesOfSound 43 = .ok (.goto (-38), 3) := by decide +kernel
theorem dX1_placesOfSound_46 : decode cX1_placesOfSound 46 = .ok (.iload_n 3, 1) := by decide +kernel
theorem dX1_placesOfSound_47 : decode cX1_placesOfSound 47 = .ok (.ireturn, 1) := by decide +kernel
theorem dX1_isIn_0 : decode cX1_isIn 0 = .ok (.iload_n 0, 1) := by decide +kernel
theorem dX1_isIn_1 : decode cX1_isIn 1 = .ok (.iload_n 1, 1) := by decide +kernel
theorem dX1_isIn_2 : decode cX1_isIn 2 = .ok (.ishr, 1) := by decide +kernel
theorem dX1_isIn_3 : decode cX1_isIn 3 = .ok (.iconst 1, 1) := by decide +kernel
theorem dX1_isIn_4 : decode cX1_isIn 4 = .ok (.iand, 1) := by decide +kernel
theorem dX1_isIn_5 : decode cX1_isIn 5 = .ok (.iconst 1, 1) := by decide +kernel
theorem dX1_isIn_6 : decode cX1_isIn 6 = .ok (.if_icmp .ne 7, 3) := by decide +kernel
theorem dX1_isIn_9 : decode cX1_isIn 9 = .ok (.iconst 1, 1) := by decide +kernel
theorem dX1_isIn_10 : decode cX1_isIn 10 = .ok (.goto 4, 3) := by decide +kernel
theorem dX1_isIn_13 : decode cX1_isIn 13 = .ok (.iconst 0, 1) := by decide +kernel
theorem dX1_isIn_14 : decode cX1_isIn 14 = .ok (.ireturn, 1) := by decide +kernel
theorem dX2_init_0 : decode cX2_init 0 = .ok (.aload_n 0, 1) := by decide +kernel
theorem dX2_init_1 : decode cX2_init 1 = .ok (.invokespecial 3, 3) := by decide +kernel
theorem dX2_init_4 : decode cX2_init 4 = .ok (.aload_n 0, 1) := by decide +kernel
theorem dX2_init_5 : decode cX2_init 5 = .ok (.bipush 28, 2) := by decide +kernel
theorem dX2_init_7 : decode cX2_init 7 = .ok (.newarray .int, 2) := by decide +kernel
theorem dX2_init_9 : decode cX2_init 9 = .ok (.putfield 9, 3) := by decide +kernel
theorem dX2_init_12 : decode cX2_init 12 = .ok (.return_, 1) := by decide +kernel
theorem dX2_write_0 : decode cX2_write 0 = .ok (.aload_n 0, 1) := by decide +kernel
theorem dX2_write_1 : decode cX2_write 1 = .ok (.getfield 9, 3) := by decide +kernel
theorem dX2_write_4 : decode cX2_write 4 = .ok (.aload_n 0, 1) := by decide +kernel
theorem dX2_write_5 : decode cX2_write 5 = .ok (.getfield 15, 3) := by decide +kernel
theorem dX2_write_8 : decode cX2_write 8 = .ok (.iload_n 1, 1) := by decide +kernel
theorem dX2_write_9 : decode cX2_write 9 = .ok (.invokestatic 19, 3) := by decide +kernel
theorem dX2_write_12 : decode cX2_write 12 = .ok (.aload_n 0, 1) := by decide +kernel
theorem dX2_write_13 : decode cX2_write 13 = .ok (.dup, 1) := by decide +kernel
theorem dX2_write_14 : decode cX2_write 14 = .ok (.getfield 15, 3) := by decide +kernel
theorem dX2_write_17 : decode cX2_write 17 = .ok (.iconst 1, 1) := by decide +kernel
theorem dX2_write_18 : decode cX2_write 18 = .ok (.iadd, 1) := by decide +kernel
theorem dX2_write_19 : decode cX2_write 19 = .ok (.putfield 15, 3) := by decide +kernel
theorem dX2_write_22 : decode cX2_write 22 = .ok (.return_, 1) := by decide +kernel
theorem dX2_codeAt_0 : decode cX2_codeAt 0 = .ok (.aload_n 0, 1) := by decide +kernel
theorem dX2_codeAt_1 : decode cX2_codeAt 1 = .ok (.getfield 9, 3) := by decide +kernel
theorem dX2_codeAt_4 : decode cX2_codeAt 4 = .ok (.iload_n 1, 1) := by decide +kernel
theorem dX2_codeAt_5 : decode cX2_codeAt 5 = .ok (.invokestatic 23, 3) := by decide +kernel
theorem dX2_codeAt_8 : decode cX2_codeAt 8 = .ok (.ireturn, 1) := by decide +kernel
theorem dX2_digitAt_0 : decode cX2_digitAt 0 = .ok (.aload_n 0, 1) := by decide +kernel
theorem dX2_digitAt_1 : decode cX2_digitAt 1 = .ok (.getfield 9, 3) := by decide +kernel
theorem dX2_digitAt_4 : decode cX2_digitAt 4 = .ok (.iload_n 1, 1) := by decide +kernel
theorem dX2_digitAt_5 : decode cX2_digitAt 5 = .ok (.invokestatic 23, 3) := by decide +kernel
theorem dX2_digitAt_8 : decode cX2_digitAt 8 = .ok (.bipush 48, 2) := by decide +kernel
theorem dX2_digitAt_10 : decode cX2_digitAt 10 = .ok (.isub, 1) := by decide +kernel
theorem dX2_digitAt_11 : decode cX2_digitAt 11 = .ok (.ireturn, 1) := by decide +kernel
theorem dX2_isMine_0 : decode cX2_isMine 0 = .ok (.aload_n 0, 1) := by decide +kernel
theorem dX2_isMine_1 : decode cX2_isMine 1 = .ok (.invokevirtual 27, 3) := by decide +kernel
theorem dX2_isMine_4 : decode cX2_isMine 4 = .ok (.ifCond .eq 18, 3) := by decide +kernel
theorem dX2_isMine_7 : decode cX2_isMine 7 = .ok (.aload_n 0, 1) := by decide +kernel
theorem dX2_isMine_8 : decode cX2_isMine 8 = .ok (.invokevirtual 31, 3) := by decide +kernel
theorem dX2_isMine_11 : decode cX2_isMine 11 = .ok (.aload_n 0, 1) := by decide +kernel
theorem dX2_isMine_12 : decode cX2_isMine 12 = .ok (.getfield 15, 3) := by decide +kernel
theorem dX2_isMine_15 : decode cX2_isMine 15 = .ok (.if_icmp .ne 7, 3) := by decide +kernel
theorem dX2_isMine_18 : decode cX2_isMine 18 = .ok (.iconst 1, 1) := by decide +kernel
theorem dX2_isMine_19 : decode cX2_isMine 19 = .ok (.goto 4, 3) := by decide +kernel
theorem dX2_isMine_22 : decode cX2_isMine 22 = .ok (.iconst 0, 1) := by decide +kernel
theorem dX2_isMine_23 : decode cX2_isMine 23 = .ok (.ireturn, 1) := by decide +kernel
theorem dX2_faultPlace_0 : decode cX2_faultPlace 0 = .ok (.aload_n 0, 1) := by decide +kernel
theorem dX2_faultPlace_1 : decode cX2_faultPlace 1 = .ok (.invokevirtual 35, 3) := by decide +kernel
theorem dX2_faultPlace_4 : decode cX2_faultPlace 4 = .ok (.istore_n 1, 1) := by decide +kernel
theorem dX2_faultPlace_5 : decode cX2_faultPlace 5 = .ok (.iload_n 1, 1) := by decide +kernel
theorem dX2_faultPlace_6 : decode cX2_faultPlace 6 = .ok (.aload_n 0, 1) := by decide +kernel
theorem dX2_faultPlace_7 : decode cX2_faultPlace 7 = .ok (.getfield 15, 3) := by decide +kernel
theorem dX2_faultPlace_10 : decode cX2_faultPlace 10 = .ok (.if_icmp .lt 10, 3) := by decide +kernel
theorem dX2_faultPlace_13 : decode cX2_faultPlace 13 = .ok (.aload_n 0, 1) := by decide +kernel
theorem dX2_faultPlace_14 : decode cX2_faultPlace 14 = .ok (.invokevirtual 27, 3) := by decide +kernel
theorem dX2_faultPlace_17 : decode cX2_faultPlace 17 = .ok (.ifCond .ne 5, 3) := by decide +kernel
theorem dX2_faultPlace_20 : decode cX2_faultPlace 20 = .ok (.iload_n 1, 1) := by decide +kernel
theorem dX2_faultPlace_21 : decode cX2_faultPlace 21 = .ok (.ireturn, 1) := by decide +kernel
theorem dX2_faultPlace_22 : decode cX2_faultPlace 22 = .ok (.aload_n 0, 1) := by decide +kernel
theorem dX2_faultPlace_23 : decode cX2_faultPlace 23 = .ok (.invokevirtual 38, 3) := by decide +kernel
theorem dX2_faultPlace_26 : decode cX2_faultPlace 26 = .ok (.ireturn, 1) := by decide +kernel
theorem dX2_isClosed_0 : decode cX2_isClosed 0 = .ok (.aload_n 0, 1) := by decide +kernel
theorem dX2_isClosed_1 : decode cX2_isClosed 1 = .ok (.aload_n 0, 1) := by decide +kernel
theorem dX2_isClosed_2 : decode cX2_isClosed 2 = .ok (.getfield 15, 3) := by decide +kernel
theorem dX2_isClosed_5 : decode cX2_isClosed 5 = .ok (.iconst 2, 1) := by decide +kernel
theorem dX2_isClosed_6 : decode cX2_isClosed 6 = .ok (.isub, 1) := by decide +kernel
theorem dX2_isClosed_7 : decode cX2_isClosed 7 = .ok (.invokevirtual 41, 3) := by decide +kernel
theorem dX2_isClosed_10 : decode cX2_isClosed 10 = .ok (.bipush 59, 2) := by decide +kernel
theorem dX2_isClosed_12 : decode cX2_isClosed 12 = .ok (.if_icmp .ne 7, 3) := by decide +kernel
theorem dX2_isClosed_15 : decode cX2_isClosed 15 = .ok (.iconst 1, 1) := by decide +kernel
theorem dX2_isClosed_16 : decode cX2_isClosed 16 = .ok (.goto 4, 3) := by decide +kernel
theorem dX2_isClosed_19 : decode cX2_isClosed 19 = .ok (.iconst 0, 1) := by decide +kernel
theorem dX2_isClosed_20 : decode cX2_isClosed 20 = .ok (.ireturn, 1) := by decide +kernel
theorem dX2_firstMisfit_0 : decode cX2_firstMisfit 0 = .ok (.iconst 0, 1) := by decide +kernel
theorem dX2_firstMisfit_1 : decode cX2_firstMisfit 1 = .ok (.istore_n 1, 1) := by decide +kernel
theorem dX2_firstMisfit_2 : decode cX2_firstMisfit 2 = .ok (.iconst 0, 1) := by decide +kernel
theorem dX2_firstMisfit_3 : decode cX2_firstMisfit 3 = .ok (.istore_n 2, 1) := by decide +kernel
theorem dX2_firstMisfit_4 : decode cX2_firstMisfit 4 = .ok (.iload_n 2, 1) := by decide +kernel
theorem dX2_firstMisfit_5 : decode cX2_firstMisfit 5 = .ok (.aload_n 0, 1) := by decide +kernel
theorem dX2_firstMisfit_6 : decode cX2_firstMisfit 6 = .ok (.getfield 15, 3) := by decide +kernel
theorem dX2_firstMisfit_9 : decode cX2_firstMisfit 9 = .ok (.if_icmp .ge 53, 3) := by decide +kernel
theorem dX2_firstMisfit_12 : decode cX2_firstMisfit 12 = .ok (.iload_n 1, 1) := by decide +kernel
theorem dX2_firstMisfit_13 : decode cX2_firstMisfit 13 = .ok (.ifCond .eq 11, 3) := by decide +kernel
theorem dX2_firstMisfit_16 : decode cX2_firstMisfit 16 = .ok (.aload_n 0, 1) := by decide +kernel
theorem dX2_firstMisfit_17 : decode cX2_firstMisfit 17 = .ok (.iload_n 2, 1) := by decide +kernel
theorem dX2_firstMisfit_18 : decode cX2_firstMisfit 18 = .ok (.invokevirtual 45, 3) := by decide +kernel
theorem dX2_firstMisfit_21 : decode cX2_firstMisfit 21 = .ok (.goto 8, 3) := by decide +kernel
theorem dX2_firstMisfit_24 : decode cX2_firstMisfit 24 = .ok (.aload_n 0, 1) := by decide +kernel
theorem dX2_firstMisfit_25 : decode cX2_firstMisfit 25 = .ok (.iload_n 2, 1) := by decide +kernel
theorem dX2_firstMisfit_26 : decode cX2_firstMisfit 26 = .ok (.invokevirtual 49, 3) := by decide +kernel
theorem dX2_firstMisfit_29 : decode cX2_firstMisfit 29 = .ok (.istore_n 3, 1) := by decide +kernel
theorem dX2_firstMisfit_30 : decode cX2_firstMisfit 30 = .ok (.iload_n 3, 1) := by decide +kernel
theorem dX2_firstMisfit_31 : decode cX2_firstMisfit 31 = .ok (.ifCond .ne 5, 3) := by decide +kernel
theorem dX2_firstMisfit_34 : decode cX2_firstMisfit 34 = .ok (.iload_n 2, 1) := by decide +kernel
theorem dX2_firstMisfit_35 : decode cX2_firstMisfit 35 = .ok (.ireturn, 1) := by decide +kernel
theorem dX2_firstMisfit_36 : decode cX2_firstMisfit 36 = .ok (.iload_n 1, 1) := by decide +kernel
theorem dX2_firstMisfit_37 : decode cX2_firstMisfit 37 = .ok (.ifCond .ne 13, 3) := by decide +kernel
theorem dX2_firstMisfit_40 : decode cX2_firstMisfit 40 = .ok (.aload_n 0, 1) := by decide +kernel
theorem dX2_firstMisfit_41 : decode cX2_firstMisfit 41 = .ok (.iload_n 2, 1) := by decide +kernel
theorem dX2_firstMisfit_42 : decode cX2_firstMisfit 42 = .ok (.invokevirtual 41, 3) := by decide +kernel
theorem dX2_firstMisfit_45 : decode cX2_firstMisfit 45 = .ok (.bipush 59, 2) := by decide +kernel
theorem dX2_firstMisfit_47 : decode cX2_firstMisfit 47 = .ok (.if_icmp .ne 7, 3) := by decide +kernel
theorem dX2_firstMisfit_50 : decode cX2_firstMisfit 50 = .ok (.iconst 1, 1) := by decide +kernel
theorem dX2_firstMisfit_51 : decode cX2_firstMisfit 51 = .ok (.goto 4, 3) := by decide +kernel
theorem dX2_firstMisfit_54 : decode cX2_firstMisfit 54 = .ok (.iconst 0, 1) := by decide +kernel
theorem dX2_firstMisfit_55 : decode cX2_firstMisfit 55 = .ok (.istore_n 1, 1) := by decide +kernel
theorem dX2_firstMisfit_56 : decode cX2_firstMisfit 56 = .ok (.iinc 2 1, 3) := by decide +kernel
theorem dX2_firstMisfit_59 : decode cX2_firstMisfit 59 = .ok (.goto (-55), 3) := by decide +kernel
theorem dX2_firstMisfit_62 : decode cX2_firstMisfit 62 = .ok (.aload_n 0, 1) := by decide +kernel
theorem dX2_firstMisfit_63 : decode cX2_firstMisfit 63 = .ok (.getfield 15, 3) := by decide +kernel
theorem dX2_firstMisfit_66 : decode cX2_firstMisfit 66 = .ok (.ireturn, 1) := by decide +kernel
theorem dX2_fitsAsOil_0 : decode cX2_fitsAsOil 0 = .ok (.aload_n 0, 1) := by decide +kernel
theorem dX2_fitsAsOil_1 : decode cX2_fitsAsOil 1 = .ok (.iload_n 1, 1) := by decide +kernel
theorem dX2_fitsAsOil_2 : decode cX2_fitsAsOil 2 = .ok (.iconst 1, 1) := by decide +kernel
theorem dX2_fitsAsOil_3 : decode cX2_fitsAsOil 3 = .ok (.isub, 1) := by decide +kernel
theorem dX2_fitsAsOil_4 : decode cX2_fitsAsOil 4 = .ok (.invokevirtual 41, 3) := by decide +kernel
theorem dX2_fitsAsOil_7 : decode cX2_fitsAsOil 7 = .ok (.bipush 59, 2) := by decide +kernel
theorem dX2_fitsAsOil_9 : decode cX2_fitsAsOil 9 = .ok (.if_icmp .ne 26, 3) := by decide +kernel
theorem dX2_fitsAsOil_12 : decode cX2_fitsAsOil 12 = .ok (.aload_n 0, 1) := by decide +kernel
theorem dX2_fitsAsOil_13 : decode cX2_fitsAsOil 13 = .ok (.iload_n 1, 1) := by decide +kernel
theorem dX2_fitsAsOil_14 : decode cX2_fitsAsOil 14 = .ok (.invokevirtual 52, 3) := by decide +kernel
theorem dX2_fitsAsOil_17 : decode cX2_fitsAsOil 17 = .ok (.iconst 1, 1) := by decide +kernel
theorem dX2_fitsAsOil_18 : decode cX2_fitsAsOil 18 = .ok (.if_icmp .lt 17, 3) := by decide +kernel
theorem dX2_fitsAsOil_21 : decode cX2_fitsAsOil 21 = .ok (.aload_n 0, 1) := by decide +kernel
theorem dX2_fitsAsOil_22 : decode cX2_fitsAsOil 22 = .ok (.iload_n 1, 1) := by decide +kernel
theorem dX2_fitsAsOil_23 : decode cX2_fitsAsOil 23 = .ok (.invokevirtual 52, 3) := by decide +kernel
theorem dX2_fitsAsOil_26 : decode cX2_fitsAsOil 26 = .ok (.bipush 9, 2) := by decide +kernel
theorem dX2_fitsAsOil_28 : decode cX2_fitsAsOil 28 = .ok (.if_icmp .gt 7, 3) := by decide +kernel
theorem dX2_fitsAsOil_31 : decode cX2_fitsAsOil 31 = .ok (.iconst 1, 1) := by decide +kernel
theorem dX2_fitsAsOil_32 : decode cX2_fitsAsOil 32 = .ok (.goto 4, 3) := by decide +kernel
theorem dX2_fitsAsOil_35 : decode cX2_fitsAsOil 35 = .ok (.iconst 0, 1) := by decide +kernel
theorem dX2_fitsAsOil_36 : decode cX2_fitsAsOil 36 = .ok (.ireturn, 1) := by decide +kernel
theorem dX2_fitsInCrossings_0 : decode cX2_fitsInCrossings 0 = .ok (.iload_n 1, 1) := by decide +kernel
theorem dX2_fitsInCrossings_1 : decode cX2_fitsInCrossings 1 = .ok (.iconst 4, 1) := by decide +kernel
theorem dX2_fitsInCrossings_2 : decode cX2_fitsInCrossings 2 = .ok (.idiv, 1) := by decide +kernel
theorem dX2_fitsInCrossings_3 : decode cX2_fitsInCrossings 3 = .ok (.iconst 1, 1) := by decide +kernel
theorem dX2_fitsInCrossings_4 : decode cX2_fitsInCrossings 4 = .ok (.iadd, 1) := by decide +kernel
theorem dX2_fitsInCrossings_5 : decode cX2_fitsInCrossings 5 = .ok (.istore_n 2, 1) := by decide +kernel
theorem dX2_fitsInCrossings_6 : decode cX2_fitsInCrossings 6 = .ok (.iload_n 1, 1) := by decide +kernel
theorem dX2_fitsInCrossings_7 : decode cX2_fitsInCrossings 7 = .ok (.iconst 4, 1) := by decide +kernel
theorem dX2_fitsInCrossings_8 : decode cX2_fitsInCrossings 8 = .ok (.irem, 1) := by decide +kernel
theorem dX2_fitsInCrossings_9 : decode cX2_fitsInCrossings 9 = .ok (.lookupswitch 82 #[(0, 27), (3, 45)], 27) := by decide +kernel
theorem dX2_fitsInCrossings_36 : decode cX2_fitsInCrossings 36 = .ok (.aload_n 0, 1) := by decide +kernel
theorem dX2_fitsInCrossings_37 : decode cX2_fitsInCrossings 37 = .ok (.iload_n 1, 1) := by decide +kernel
theorem dX2_fitsInCrossings_38 : decode cX2_fitsInCrossings 38 = .ok (.invokevirtual 41, 3) := by decide +kernel
theorem dX2_fitsInCrossings_41 : decode cX2_fitsInCrossings 41 = .ok (.invokestatic 55, 3) := by decide +kernel
theorem dX2_fitsInCrossings_44 : decode cX2_fitsInCrossings 44 = .ok (.iconst (-1), 1) := by decide +kernel
theorem dX2_fitsInCrossings_45 : decode cX2_fitsInCrossings 45 = .ok (.if_icmp .eq 7, 3) := by decide +kernel
theorem dX2_fitsInCrossings_48 : decode cX2_fitsInCrossings 48 = .ok (.iconst 1, 1) := by decide +kernel
theorem dX2_fitsInCrossings_49 : decode cX2_fitsInCrossings 49 = .ok (.goto 4, 3) := by decide +kernel
theorem dX2_fitsInCrossings_52 : decode cX2_fitsInCrossings 52 = .ok (.iconst 0, 1) := by decide +kernel
theorem dX2_fitsInCrossings_53 : decode cX2_fitsInCrossings 53 = .ok (.ireturn, 1) := by decide +kernel
theorem dX2_fitsInCrossings_54 : decode cX2_fitsInCrossings 54 = .ok (.aload_n 0, 1) := by decide +kernel
theorem dX2_fitsInCrossings_55 : decode cX2_fitsInCrossings 55 = .ok (.iload_n 1, 1) := by decide +kernel
theorem dX2_fitsInCrossings_56 : decode cX2_fitsInCrossings 56 = .ok (.invokevirtual 41, 3) := by decide +kernel
theorem dX2_fitsInCrossings_59 : decode cX2_fitsInCrossings 59 = .ok (.bipush 44, 2) := by decide +kernel
theorem dX2_fitsInCrossings_61 : decode cX2_fitsInCrossings 61 = .ok (.if_icmp .ne 9, 3) := by decide +kernel
theorem dX2_fitsInCrossings_64 : decode cX2_fitsInCrossings 64 = .ok (.iload_n 2, 1) := by decide +kernel
theorem dX2_fitsInCrossings_65 : decode cX2_fitsInCrossings 65 = .ok (.bipush 6, 2) := by decide +kernel
theorem dX2_fitsInCrossings_67 : decode cX2_fitsInCrossings 67 = .ok (.if_icmp .lt 18, 3) := by decide +kernel
theorem dX2_fitsInCrossings_70 : decode cX2_fitsInCrossings 70 = .ok (.aload_n 0, 1) := by decide +kernel
theorem dX2_fitsInCrossings_71 : decode cX2_fitsInCrossings 71 = .ok (.iload_n 1, 1) := by decide +kernel
theorem dX2_fitsInCrossings_72 : decode cX2_fitsInCrossings 72 = .ok (.invokevirtual 41, 3) := by decide +kernel
theorem dX2_fitsInCrossings_75 : decode cX2_fitsInCrossings 75 = .ok (.bipush 59, 2) := by decide +kernel
theorem dX2_fitsInCrossings_77 : decode cX2_fitsInCrossings 77 = .ok (.if_icmp .ne 12, 3) := by decide +kernel
theorem dX2_fitsInCrossings_80 : decode cX2_fitsInCrossings 80 = .ok (.iload_n 2, 1) := by decide +kernel
theorem dX2_fitsInCrossings_81 : decode cX2_fitsInCrossings 81 = .ok (.iconst 2, 1) := by decide +kernel
theorem dX2_fitsInCrossings_82 : decode cX2_fitsInCrossings 82 = .ok (.if_icmp .lt 7, 3) := by decide +kernel
theorem dX2_fitsInCrossings_85 : decode cX2_fitsInCrossings 85 = .ok (.iconst 1, 1) := by decide +kernel
theorem dX2_fitsInCrossings_86 : decode cX2_fitsInCrossings 86 = .ok (.goto 4, 3) := by decide +kernel
theorem dX2_fitsInCrossings_89 : decode cX2_fitsInCrossings 89 = .ok (.iconst 0, 1) := by decide +kernel
theorem dX2_fitsInCrossings_90 : decode cX2_fitsInCrossings 90 = .ok (.ireturn, 1) := by decide +kernel
theorem dX2_fitsInCrossings_91 : decode cX2_fitsInCrossings 91 = .ok (.aload_n 0, 1) := by decide +kernel
theorem dX2_fitsInCrossings_92 : decode cX2_fitsInCrossings 92 = .ok (.iload_n 1, 1) := by decide +kernel
theorem dX2_fitsInCrossings_93 : decode cX2_fitsInCrossings 93 = .ok (.invokevirtual 52, 3) := by decide +kernel
theorem dX2_fitsInCrossings_96 : decode cX2_fitsInCrossings 96 = .ok (.ifCond .lt 17, 3) := by decide +kernel
theorem dX2_fitsInCrossings_99 : decode cX2_fitsInCrossings 99 = .ok (.aload_n 0, 1) := by decide +kernel
theorem dX2_fitsInCrossings_100 : decode cX2_fitsInCrossings 100 = .ok (.iload_n 1, 1) := by decide +kernel
theorem dX2_fitsInCrossings_101 : decode cX2_fitsInCrossings 101 = .ok (.invokevirtual 52, 3) := by decide +kernel
theorem dX2_fitsInCrossings_104 : decode cX2_fitsInCrossings 104 = .ok (.bipush 6, 2) := by decide +kernel
theorem dX2_fitsInCrossings_106 : decode cX2_fitsInCrossings 106 = .ok (.if_icmp .ge 7, 3) := by decide +kernel
theorem dX2_fitsInCrossings_109 : decode cX2_fitsInCrossings 109 = .ok (.iconst 1, 1) := by decide +kernel
theorem dX2_fitsInCrossings_110 : decode cX2_fitsInCrossings 110 = .ok (.goto 4, 3) := by decide +kernel
theorem dX2_fitsInCrossings_113 : decode cX2_fitsInCrossings 113 = .ok (.iconst 0, 1) := by decide +kernel
theorem dX2_fitsInCrossings_114 : decode cX2_fitsInCrossings 114 = .ok (.ireturn, 1) := by decide +kernel
theorem dX2_firstLeadingNowhere_0 : decode cX2_firstLeadingNowhere 0 = .ok (.aload_n 0, 1) := by decide +kernel
theorem dX2_firstLeadingNowhere_1 : decode cX2_firstLeadingNowhere 1 = .ok (.getfield 15, 3) := by decide +kernel
theorem dX2_firstLeadingNowhere_4 : decode cX2_firstLeadingNowhere 4 = .ok (.iconst 4, 1) := by decide +kernel
theorem dX2_firstLeadingNowhere_5 : decode cX2_firstLeadingNowhere 5 = .ok (.idiv, 1) := by decide +kernel
theorem dX2_firstLeadingNowhere_6 : decode cX2_firstLeadingNowhere 6 = .ok (.istore_n 1, 1) := by decide +kernel
theorem dX2_firstLeadingNowhere_7 : decode cX2_firstLeadingNowhere 7 = .ok (.iconst 0, 1) := by decide +kernel
theorem dX2_firstLeadingNowhere_8 : decode cX2_firstLeadingNowhere 8 = .ok (.istore_n 2, 1) := by decide +kernel
theorem dX2_firstLeadingNowhere_9 : decode cX2_firstLeadingNowhere 9 = .ok (.iload_n 2, 1) := by decide +kernel
theorem dX2_firstLeadingNowhere_10 : decode cX2_firstLeadingNowhere 10 = .ok (.iconst 4, 1) := by decide +kernel
theorem dX2_firstLeadingNowhere_11 : decode cX2_firstLeadingNowhere 11 = .ok (.iload_n 1, 1) := by decide +kernel
theorem dX2_firstLeadingNowhere_12 : decode cX2_firstLeadingNowhere 12 = .ok (.imul, 1) := by decide +kernel
theorem dX2_firstLeadingNowhere_13 : decode cX2_firstLeadingNowhere 13 = .ok (.if_icmp .ge 44, 3) := by decide +kernel
theorem dX2_firstLeadingNowhere_16 : decode cX2_firstLeadingNowhere 16 = .ok (.iload_n 2, 1) := by decide +kernel
theorem dX2_firstLeadingNowhere_17 : decode cX2_firstLeadingNowhere 17 = .ok (.iconst 4, 1) := by decide +kernel
theorem dX2_firstLeadingNowhere_18 : decode cX2_firstLeadingNowhere 18 = .ok (.irem, 1) := by decide +kernel
theorem dX2_firstLeadingNowhere_19 : decode cX2_firstLeadingNowhere 19 = .ok (.iconst 1, 1) := by decide +kernel
theorem dX2_firstLeadingNowhere_20 : decode cX2_firstLeadingNowhere 20 = .ok (.if_icmp .eq 10, 3) := by decide +kernel
theorem dX2_firstLeadingNowhere_23 : decode cX2_firstLeadingNowhere 23 = .ok (.iload_n 2, 1) := by decide +kernel
theorem dX2_firstLeadingNowhere_24 : decode cX2_firstLeadingNowhere 24 = .ok (.iconst 4, 1) := by decide +kernel
theorem dX2_firstLeadingNowhere_25 : decode cX2_firstLeadingNowhere 25 = .ok (.irem, 1) := by decide +kernel
theorem dX2_firstLeadingNowhere_26 : decode cX2_firstLeadingNowhere 26 = .ok (.iconst 2, 1) := by decide +kernel
theorem dX2_firstLeadingNowhere_27 : decode cX2_firstLeadingNowhere 27 = .ok (.if_icmp .ne 7, 3) := by decide +kernel
theorem dX2_firstLeadingNowhere_30 : decode cX2_firstLeadingNowhere 30 = .ok (.iconst 1, 1) := by decide +kernel
theorem dX2_firstLeadingNowhere_31 : decode cX2_firstLeadingNowhere 31 = .ok (.goto 4, 3) := by decide +kernel
theorem dX2_firstLeadingNowhere_34 : decode cX2_firstLeadingNowhere 34 = .ok (.iconst 0, 1) := by decide +kernel
theorem dX2_firstLeadingNowhere_35 : decode cX2_firstLeadingNowhere 35 = .ok (.istore_n 3, 1) := by decide +kernel
theorem dX2_firstLeadingNowhere_36 : decode cX2_firstLeadingNowhere 36 = .ok (.iload_n 3, 1) := by decide +kernel
theorem dX2_firstLeadingNowhere_37 : decode cX2_firstLeadingNowhere 37 = .ok (.ifCond .eq 14, 3) := by decide +kernel
theorem dX2_firstLeadingNowhere_40 : decode cX2_firstLeadingNowhere 40 = .ok (.aload_n 0, 1) := by decide +kernel
theorem dX2_firstLeadingNowhere_41 : decode cX2_firstLeadingNowhere 41 = .ok (.iload_n 2, 1) := by decide +kernel
theorem dX2_firstLeadingNowhere_42 : decode cX2_firstLeadingNowhere 42 = .ok (.invokevirtual 52, 3) := by decide +kernel
theorem dX2_firstLeadingNowhere_45 : decode cX2_firstLeadingNowhere 45 = .ok (.iload_n 1, 1) := by decide +kernel
theorem dX2_firstLeadingNowhere_46 : decode cX2_firstLeadingNowhere 46 = .ok (.if_icmp .lt 5, 3) := by decide +kernel
theorem dX2_firstLeadingNowhere_49 : decode cX2_firstLeadingNowhere 49 = .ok (.iload_n 2, 1) := by decide +kernel
theorem dX2_firstLeadingNowhere_50 : decode cX2_firstLeadingNowhere 50 = .ok (.ireturn, 1) := by decide +kernel
theorem dX2_firstLeadingNowhere_51 : decode cX2_firstLeadingNowhere 51 = .ok (.iinc 2 1, 3) := by decide +kernel
theorem dX2_firstLeadingNowhere_54 : decode cX2_firstLeadingNowhere 54 = .ok (.goto (-45), 3) := by decide +kernel
theorem dX2_firstLeadingNowhere_57 : decode cX2_firstLeadingNowhere 57 = .ok (.aload_n 0, 1) := by decide +kernel
theorem dX2_firstLeadingNowhere_58 : decode cX2_firstLeadingNowhere 58 = .ok (.getfield 15, 3) := by decide +kernel
theorem dX2_firstLeadingNowhere_61 : decode cX2_firstLeadingNowhere 61 = .ok (.ireturn, 1) := by decide +kernel
theorem dX2_kindOfSign_0 : decode cX2_kindOfSign 0 = .ok (.ldc 58, 2) := by decide +kernel
theorem dX2_kindOfSign_2 : decode cX2_kindOfSign 2 = .ok (.iload_n 0, 1) := by decide +kernel
theorem dX2_kindOfSign_3 : decode cX2_kindOfSign 3 = .ok (.i2c, 1) := by decide +kernel
theorem dX2_kindOfSign_4 : decode cX2_kindOfSign 4 = .ok (.invokevirtual 60, 3) := by decide +kernel
theorem dX2_kindOfSign_7 : decode cX2_kindOfSign 7 = .ok (.ireturn, 1) := by decide +kernel
theorem dX3_init_0 : decode cX3_init 0 = .ok (.aload_n 0, 1) := by decide +kernel
theorem dX3_init_1 : decode cX3_init 1 = .ok (.invokespecial 3, 3) := by decide +kernel
theorem dX3_init_4 : decode cX3_init 4 = .ok (.aload_n 0, 1) := by decide +kernel
theorem dX3_init_5 : decode cX3_init 5 = .ok (.bipush 36, 2) := by decide +kernel
theorem dX3_init_7 : decode cX3_init 7 = .ok (.newarray .int, 2) := by decide +kernel
theorem dX3_init_9 : decode cX3_init 9 = .ok (.putfield 9, 3) := by decide +kernel
theorem dX3_init_12 : decode cX3_init 12 = .ok (.return_, 1) := by decide +kernel
theorem dX3_get_0 : decode cX3_get 0 = .ok (.aload_n 0, 1) := by decide +kernel
theorem dX3_get_1 : decode cX3_get 1 = .ok (.getfield 9, 3) := by decide +kernel
theorem dX3_get_4 : decode cX3_get 4 = .ok (.iload_n 1, 1) := by decide +kernel
theorem dX3_get_5 : decode cX3_get 5 = .ok (.bipush 6, 2) := by decide +kernel
theorem dX3_get_7 : decode cX3_get 7 = .ok (.imul, 1) := by decide +kernel
theorem dX3_get_8 : decode cX3_get 8 = .ok (.iload_n 2, 1) := by decide +kernel
theorem dX3_get_9 : decode cX3_get 9 = .ok (.iadd, 1) := by decide +kernel
theorem dX3_get_10 : decode cX3_get 10 = .ok (.invokestatic 15, 3) := by decide +kernel
theorem dX3_get_13 : decode cX3_get 13 = .ok (.ireturn, 1) := by decide +kernel
theorem dX3_set_0 : decode cX3_set 0 = .ok (.aload_n 0, 1) := by decide +kernel
theorem dX3_set_1 : decode cX3_set 1 = .ok (.getfield 9, 3) := by decide +kernel
theorem dX3_set_4 : decode cX3_set 4 = .ok (.iload_n 1, 1) := by decide +kernel
theorem dX3_set_5 : decode cX3_set 5 = .ok (.bipush 6, 2) := by decide +kernel
theorem dX3_set_7 : decode cX3_set 7 = .ok (.imul, 1) := by decide +kernel
theorem dX3_set_8 : decode cX3_set 8 = .ok (.iload_n 2, 1) := by decide +kernel
theorem dX3_set_9 : decode cX3_set 9 = .ok (.iadd, 1) := by decide +kernel
theorem dX3_set_10 : decode cX3_set 10 = .ok (.iload_n 3, 1) := by decide +kernel
theorem dX3_set_11 : decode cX3_set 11 = .ok (.invokestatic 19, 3) := by decide +kernel
theorem dX3_set_14 : decode cX3_set 14 = .ok (.return_, 1) := by decide +kernel
theorem dX3_lower_0 : decode cX3_lower 0 = .ok (.iload_n 3, 1) := by decide +kernel
theorem dX3_lower_1 : decode cX3_lower 1 = .ok (.aload_n 0, 1) := by decide +kernel
theorem dX3_lower_2 : decode cX3_lower 2 = .ok (.iload_n 1, 1) := by decide +kernel
theorem dX3_lower_3 : decode cX3_lower 3 = .ok (.iload_n 2, 1) := by decide +kernel
theorem dX3_lower_4 : decode cX3_lower 4 = .ok (.invokevirtual 23, 3) := by decide +kernel
theorem dX3_lower_7 : decode cX3_lower 7 = .ok (.if_icmp .lt 5, 3) := by decide +kernel
theorem dX3_lower_10 : decode cX3_lower 10 = .ok (.iconst 0, 1) := by decide +kernel
theorem dX3_lower_11 : decode cX3_lower 11 = .ok (.ireturn, 1) := by decide +kernel
theorem dX3_lower_12 : decode cX3_lower 12 = .ok (.aload_n 0, 1) := by decide +kernel
theorem dX3_lower_13 : decode cX3_lower 13 = .ok (.iload_n 1, 1) := by decide +kernel
theorem dX3_lower_14 : decode cX3_lower 14 = .ok (.iload_n 2, 1) := by decide +kernel
theorem dX3_lower_15 : decode cX3_lower 15 = .ok (.iload_n 3, 1) := by decide +kernel
theorem dX3_lower_16 : decode cX3_lower 16 = .ok (.invokevirtual 27, 3) := by decide +kernel
theorem dX3_lower_19 : decode cX3_lower 19 = .ok (.iconst 1, 1) := by decide +kernel
theorem dX3_lower_20 : decode cX3_lower 20 = .ok (.ireturn, 1) := by decide +kernel
theorem dX4_init_0 : decode cX4_init 0 = .ok (.aload_n 0, 1) := by decide +kernel
theorem dX4_init_1 : decode cX4_init 1 = .ok (.invokespecial 3, 3) := by decide +kernel
theorem dX4_init_4 : decode cX4_init 4 = .ok (.aload_n 0, 1) := by decide +kernel
theorem dX4_init_5 : decode cX4_init 5 = .ok (.new 9, 3) := by decide +kernel
theorem dX4_init_8 : decode cX4_init 8 = .ok (.dup, 1) := by decide +kernel
theorem dX4_init_9 : decode cX4_init 9 = .ok (.invokespecial 11, 3) := by decide +kernel
theorem dX4_init_12 : decode cX4_init 12 = .ok (.putfield 12, 3) := by decide +kernel
theorem dX4_init_15 : decode cX4_init 15 = .ok (.aload_n 0, 1) := by decide +kernel
theorem dX4_init_16 : decode cX4_init 16 = .ok (.new 9, 3) := by decide +kernel
theorem dX4_init_19 : decode cX4_init 19 = .ok (.dup, 1) := by decide +kernel
theorem dX4_init_20 : decode cX4_init 20 = .ok (.invokespecial 11, 3) := by decide +kernel
theorem dX4_init_23 : decode cX4_init 23 = .ok (.putfield 18, 3) := by decide +kernel
theorem dX4_init_26 : decode cX4_init 26 = .ok (.aload_n 0, 1) := by decide +kernel
theorem dX4_init_27 : decode cX4_init 27 = .ok (.new 9, 3) := by decide +kernel
theorem dX4_init_30 : decode cX4_init 30 = .ok (.dup, 1) := by decide +kernel
theorem dX4_init_31 : decode cX4_init 31 = .ok (.invokespecial 11, 3) := by decide +kernel
theorem dX4_init_34 : decode cX4_init 34 = .ok (.putfield 21, 3) := by decide +kernel
theorem dX4_init_37 : decode cX4_init 37 = .ok (.aload_n 0, 1) := by decide +kernel
theorem dX4_init_38 : decode cX4_init 38 = .ok (.new 9, 3) := by decide +kernel
theorem dX4_init_41 : decode cX4_init 41 = .ok (.dup, 1) := by decide +kernel
theorem dX4_init_42 : decode cX4_init 42 = .ok (.invokespecial 11, 3) := by decide +kernel
theorem dX4_init_45 : decode cX4_init 45 = .ok (.putfield 24, 3) := by decide +kernel
theorem dX4_init_48 : decode cX4_init 48 = .ok (.aload_n 0, 1) := by decide +kernel
theorem dX4_init_49 : decode cX4_init 49 = .ok (.sipush 384, 3) := by decide +kernel
theorem dX4_init_52 : decode cX4_init 52 = .ok (.newarray .int, 2) := by decide +kernel
theorem dX4_init_54 : decode cX4_init 54 = .ok (.putfield 27, 3) := by decide +kernel
theorem dX4_init_57 : decode cX4_init 57 = .ok (.aload_n 0, 1) := by decide +kernel
theorem dX4_init_58 : decode cX4_init 58 = .ok (.aload_n 1, 1) := by decide +kernel
theorem dX4_init_59 : decode cX4_init 59 = .ok (.putfield 31, 3) := by decide +kernel
theorem dX4_init_62 : decode cX4_init 62 = .ok (.return_, 1) := by decide +kernel
theorem dX4_workOut_0 : decode cX4_workOut 0 = .ok (.aload_n 0, 1) := by decide +kernel
theorem dX4_workOut_1 : decode cX4_workOut 1 = .ok (.invokevirtual 35, 3) := by decide +kernel
theorem dX4_workOut_4 : decode cX4_workOut 4 = .ok (.iconst 1, 1) := by decide +kernel
theorem dX4_workOut_5 : decode cX4_workOut 5 = .ok (.istore_n 1, 1) := by decide +kernel
theorem dX4_workOut_6 : decode cX4_workOut 6 = .ok (.iconst 0, 1) := by decide +kernel
theorem dX4_workOut_7 : decode cX4_workOut 7 = .ok (.istore_n 2, 1) := by decide +kernel
theorem dX4_workOut_8 : decode cX4_workOut 8 = .ok (.iload_n 2, 1) := by decide +kernel
theorem dX4_workOut_9 : decode cX4_workOut 9 = .ok (.bipush 36, 2) := by decide +kernel
theorem dX4_workOut_11 : decode cX4_workOut 11 = .ok (.if_icmp .ge 18, 3) := by decide +kernel
theorem dX4_workOut_14 : decode cX4_workOut 14 = .ok (.iload_n 1, 1) := by decide +kernel
theorem dX4_workOut_15 : decode cX4_workOut 15 = .ok (.ifCond .eq 14, 3) := by decide +kernel
theorem dX4_workOut_18 : decode cX4_workOut 18 = .ok (.aload_n 0, 1) := by decide +kernel
theorem dX4_workOut_19 : decode cX4_workOut 19 = .ok (.invokevirtual 38, 3) := by decide +kernel
theorem dX4_workOut_22 : decode cX4_workOut 22 = .ok (.istore_n 1, 1) := by decide +kernel
theorem dX4_workOut_23 : decode cX4_workOut 23 = .ok (.iinc 2 1, 3) := by decide +kernel
theorem dX4_workOut_26 : decode cX4_workOut 26 = .ok (.goto (-18), 3) := by decide +kernel
theorem dX4_workOut_29 : decode cX4_workOut 29 = .ok (.aload_n 0, 1) := by decide +kernel
theorem dX4_workOut_30 : decode cX4_workOut 30 = .ok (.invokevirtual 42, 3) := by decide +kernel
theorem dX4_workOut_33 : decode cX4_workOut 33 = .ok (.return_, 1) := by decide +kernel
theorem dX4_firstOfWay_0 : decode cX4_firstOfWay 0 = .ok (.aload_n 0, 1) := by decide +kernel
theorem dX4_firstOfWay_1 : decode cX4_firstOfWay 1 = .ok (.getfield 12, 3) := by decide +kernel
theorem dX4_firstOfWay_4 : decode cX4_firstOfWay 4 = .ok (.iload_n 1, 1) := by decide +kernel
theorem dX4_firstOfWay_5 : decode cX4_firstOfWay 5 = .ok (.iload_n 2, 1) := by decide +kernel
theorem dX4_firstOfWay_6 : decode cX4_firstOfWay 6 = .ok (.invokevirtual 45, 3) := by decide +kernel
theorem dX4_firstOfWay_9 : decode cX4_firstOfWay 9 = .ok (.aload_n 0, 1) := by decide +kernel
theorem dX4_firstOfWay_10 : decode cX4_firstOfWay 10 = .ok (.getfield 12, 3) := by decide +kernel
theorem dX4_firstOfWay_13 : decode cX4_firstOfWay 13 = .ok (.aload_n 0, 1) := by decide +kernel
theorem dX4_firstOfWay_14 : decode cX4_firstOfWay 14 = .ok (.getfield 31, 3) := by decide +kernel
theorem dX4_firstOfWay_17 : decode cX4_firstOfWay 17 = .ok (.iload_n 1, 1) := by decide +kernel
theorem dX4_firstOfWay_18 : decode cX4_firstOfWay 18 = .ok (.iconst 0, 1) := by decide +kernel
theorem dX4_firstOfWay_19 : decode cX4_firstOfWay 19 = .ok (.invokevirtual 49, 3) := by decide +kernel
theorem dX4_firstOfWay_22 : decode cX4_firstOfWay 22 = .ok (.iload_n 2, 1) := by decide +kernel
theorem dX4_firstOfWay_23 : decode cX4_firstOfWay 23 = .ok (.invokevirtual 45, 3) := by decide +kernel
theorem dX4_firstOfWay_26 : decode cX4_firstOfWay 26 = .ok (.aload_n 0, 1) := by decide +kernel
theorem dX4_firstOfWay_27 : decode cX4_firstOfWay 27 = .ok (.getfield 12, 3) := by decide +kernel
theorem dX4_firstOfWay_30 : decode cX4_firstOfWay 30 = .ok (.aload_n 0, 1) := by decide +kernel
theorem dX4_firstOfWay_31 : decode cX4_firstOfWay 31 = .ok (.getfield 31, 3) := by decide +kernel
theorem dX4_firstOfWay_34 : decode cX4_firstOfWay 34 = .ok (.iload_n 1, 1) := by decide +kernel
theorem dX4_firstOfWay_35 : decode cX4_firstOfWay 35 = .ok (.iconst 1, 1) := by decide +kernel
theorem dX4_firstOfWay_36 : decode cX4_firstOfWay 36 = .ok (.invokevirtual 49, 3) := by decide +kernel
theorem dX4_firstOfWay_39 : decode cX4_firstOfWay 39 = .ok (.iload_n 2, 1) := by decide +kernel
theorem dX4_firstOfWay_40 : decode cX4_firstOfWay 40 = .ok (.invokevirtual 45, 3) := by decide +kernel
theorem dX4_firstOfWay_43 : decode cX4_firstOfWay 43 = .ok (.invokestatic 54, 3) := by decide +kernel
theorem dX4_firstOfWay_46 : decode cX4_firstOfWay 46 = .ok (.ireturn, 1) := by decide +kernel
theorem dX4_firstOfApart_0 : decode cX4_firstOfApart 0 = .ok (.aload_n 0, 1) := by decide +kernel
theorem dX4_firstOfApart_1 : decode cX4_firstOfApart 1 = .ok (.getfield 24, 3) := by decide +kernel
theorem dX4_firstOfApart_4 : decode cX4_firstOfApart 4 = .ok (.iload_n 1, 1) := by decide +kernel
theorem dX4_firstOfApart_5 : decode cX4_firstOfApart 5 = .ok (.iload_n 2, 1) := by decide +kernel
theorem dX4_firstOfApart_6 : decode cX4_firstOfApart 6 = .ok (.invokevirtual 45, 3) := by decide +kernel
theorem dX4_firstOfApart_9 : decode cX4_firstOfApart 9 = .ok (.aload_n 0, 1) := by decide +kernel
theorem dX4_firstOfApart_10 : decode cX4_firstOfApart 10 = .ok (.iload_n 1, 1) := by decide +kernel
theorem dX4_firstOfApart_11 : decode cX4_firstOfApart 11 = .ok (.iload_n 2, 1) := by decide +kernel
theorem dX4_firstOfApart_12 : decode cX4_firstOfApart 12 = .ok (.iconst 0, 1) := by decide +kernel
theorem dX4_firstOfApart_13 : decode cX4_firstOfApart 13 = .ok (.invokevirtual 58, 3) := by decide +kernel
theorem dX4_firstOfApart_16 : decode cX4_firstOfApart 16 = .ok (.aload_n 0, 1) := by decide +kernel
theorem dX4_firstOfApart_17 : decode cX4_firstOfApart 17 = .ok (.iload_n 1, 1) := by decide +kernel
theorem dX4_firstOfApart_18 : decode cX4_firstOfApart 18 = .ok (.iload_n 2, 1) := by decide +kernel
theorem dX4_firstOfApart_19 : decode cX4_firstOfApart 19 = .ok (.iconst 1, 1) := by decide +kernel
theorem dX4_firstOfApart_20 : decode cX4_firstOfApart 20 = .ok (.invokevirtual 58, 3) := by decide +kernel
theorem dX4_firstOfApart_23 : decode cX4_firstOfApart 23 = .ok (.invokestatic 54, 3) := by decide +kernel
theorem dX4_firstOfApart_26 : decode cX4_firstOfApart 26 = .ok (.ireturn, 1) := by decide +kernel
theorem dX4_firstOfRound_0 : decode cX4_firstOfRound 0 = .ok (.aload_n 0, 1) := by decide +kernel
theorem dX4_firstOfRound_1 : decode cX4_firstOfRound 1 = .ok (.iconst 1, 1) := by decide +kernel
theorem dX4_firstOfRound_2 : decode cX4_firstOfRound 2 = .ok (.iload_n 1, 1) := by decide +kernel
theorem dX4_firstOfRound_3 : decode cX4_firstOfRound 3 = .ok (.ishl, 1) := by decide +kernel
theorem dX4_firstOfRound_4 : decode cX4_firstOfRound 4 = .ok (.iload_n 1, 1) := by decide +kernel
theorem dX4_firstOfRound_5 : decode cX4_firstOfRound 5 = .ok (.invokevirtual 61, 3) := by decide +kernel
theorem dX4_firstOfRound_8 : decode cX4_firstOfRound 8 = .ok (.aload_n 0, 1) := by decide +kernel
theorem dX4_firstOfRound_9 : decode cX4_firstOfRound 9 = .ok (.iload_n 1, 1) := by decide +kernel
theorem dX4_firstOfRound_10 : decode cX4_firstOfRound 10 = .ok (.iconst 0, 1) := by decide +kernel
theorem dX4_firstOfRound_11 : decode cX4_firstOfRound 11 = .ok (.invokevirtual 64, 3) := by decide +kernel
theorem dX4_firstOfRound_14 : decode cX4_firstOfRound 14 = .ok (.aload_n 0, 1) := by decide +kernel
theorem dX4_firstOfRound_15 : decode cX4_firstOfRound 15 = .ok (.iload_n 1, 1) := by decide +kernel
theorem dX4_firstOfRound_16 : decode cX4_firstOfRound 16 = .ok (.iconst 1, 1) := by decide +kernel
theorem dX4_firstOfRound_17 : decode cX4_firstOfRound 17 = .ok (.invokevirtual 64, 3) := by decide +kernel
theorem dX4_firstOfRound_20 : decode cX4_firstOfRound 20 = .ok (.invokestatic 54, 3) := by decide +kernel
theorem dX4_firstOfRound_23 : decode cX4_firstOfRound 23 = .ok (.ireturn, 1) := by decide +kernel
theorem dX4_stepsOfRound_0 : decode cX4_stepsOfRound 0 = .ok (.aload_n 0, 1) := by decide +kernel
theorem dX4_stepsOfRound_1 : decode cX4_stepsOfRound 1 = .ok (.getfield 27, 3) := by decide +kernel
theorem dX4_stepsOfRound_4 : decode cX4_stepsOfRound 4 = .ok (.iload_n 1, 1) := by decide +kernel
theorem dX4_stepsOfRound_5 : decode cX4_stepsOfRound 5 = .ok (.bipush 6, 2) := by decide +kernel
theorem dX4_stepsOfRound_7 : decode cX4_stepsOfRound 7 = .ok (.imul, 1) := by decide +kernel
theorem dX4_stepsOfRound_8 : decode cX4_stepsOfRound 8 = .ok (.iload_n 2, 1) := by decide +kernel
theorem dX4_stepsOfRound_9 : decode cX4_stepsOfRound 9 = .ok (.iadd, 1) := by decide +kernel
theorem dX4_stepsOfRound_10 : decode cX4_stepsOfRound 10 = .ok (.invokestatic 67, 3) := by decide +kernel
theorem dX4_stepsOfRound_13 : decode cX4_stepsOfRound 13 = .ok (.ireturn, 1) := by decide +kernel
theorem dX4_start_0 : decode cX4_start 0 = .ok (.iconst 0, 1) := by decide +kernel
theorem dX4_start_1 : decode cX4_start 1 = .ok (.istore_n 1, 1) := by decide +kernel
theorem dX4_start_2 : decode cX4_start 2 = .ok (.iload_n 1, 1) := by decide +kernel
theorem dX4_start_3 : decode cX4_start 3 = .ok (.aload_n 0, 1) := by decide +kernel
theorem dX4_start_4 : decode cX4_start 4 = .ok (.getfield 31, 3) := by decide +kernel
theorem dX4_start_7 : decode cX4_start 7 = .ok (.getfield 71, 3) := by decide +kernel
theorem dX4_start_10 : decode cX4_start 10 = .ok (.if_icmp .ge 106, 3) := by decide +kernel
theorem dX4_start_13 : decode cX4_start 13 = .ok (.iconst 0, 1) := by decide +kernel
theorem dX4_start_14 : decode cX4_start 14 = .ok (.istore_n 2, 1) := by decide +kernel
theorem dX4_start_15 : decode cX4_start 15 = .ok (.iload_n 2, 1) := by decide +kernel
theorem dX4_start_16 : decode cX4_start 16 = .ok (.aload_n 0, 1) := by decide +kernel
theorem dX4_start_17 : decode cX4_start 17 = .ok (.getfield 31, 3) := by decide +kernel
theorem dX4_start_20 : decode cX4_start 20 = .ok (.getfield 71, 3) := by decide +kernel
theorem dX4_start_23 : decode cX4_start 23 = .ok (.if_icmp .ge 87, 3) := by decide +kernel
theorem dX4_start_26 : decode cX4_start 26 = .ok (.iload_n 1, 1) := by decide +kernel
theorem dX4_start_27 : decode cX4_start 27 = .ok (.iload_n 2, 1) := by decide +kernel
theorem dX4_start_28 : decode cX4_start 28 = .ok (.if_icmp .ne 7, 3) := by decide +kernel
theorem dX4_start_31 : decode cX4_start 31 = .ok (.iconst 0, 1) := by decide +kernel
theorem dX4_start_32 : decode cX4_start 32 = .ok (.goto 6, 3) := by decide +kernel
theorem dX4_start_35 : decode cX4_start 35 = .ok (.sipush 1000, 3) := by decide +kernel
theorem dX4_start_38 : decode cX4_start 38 = .ok (.istore_n 3, 1) := by decide +kernel
theorem dX4_start_39 : decode cX4_start 39 = .ok (.aload_n 0, 1) := by decide +kernel
theorem dX4_start_40 : decode cX4_start 40 = .ok (.getfield 12, 3) := by decide +kernel
theorem dX4_start_43 : decode cX4_start 43 = .ok (.iload_n 1, 1) := by decide +kernel
theorem dX4_start_44 : decode cX4_start 44 = .ok (.iload_n 2, 1) := by decide +kernel
theorem dX4_start_45 : decode cX4_start 45 = .ok (.iload_n 3, 1) := by decide +kernel
theorem dX4_start_46 : decode cX4_start 46 = .ok (.invokevirtual 75, 3) := by decide +kernel
theorem dX4_start_49 : decode cX4_start 49 = .ok (.aload_n 0, 1) := by decide +kernel
theorem dX4_start_50 : decode cX4_start 50 = .ok (.getfield 18, 3) := by decide +kernel
theorem dX4_start_53 : decode cX4_start 53 = .ok (.iload_n 1, 1) := by decide +kernel
theorem dX4_start_54 : decode cX4_start 54 = .ok (.iload_n 2, 1) := by decide +kernel
theorem dX4_start_55 : decode cX4_start 55 = .ok (.iload_n 3, 1) := by decide +kernel
theorem dX4_start_56 : decode cX4_start 56 = .ok (.invokevirtual 75, 3) := by decide +kernel
theorem dX4_start_59 : decode cX4_start 59 = .ok (.aload_n 0, 1) := by decide +kernel
theorem dX4_start_60 : decode cX4_start 60 = .ok (.getfield 21, 3) := by decide +kernel
theorem dX4_start_63 : decode cX4_start 63 = .ok (.iload_n 1, 1) := by decide +kernel
theorem dX4_start_64 : decode cX4_start 64 = .ok (.iload_n 2, 1) := by decide +kernel
theorem dX4_start_65 : decode cX4_start 65 = .ok (.iload_n 3, 1) := by decide +kernel
theorem dX4_start_66 : decode cX4_start 66 = .ok (.invokevirtual 75, 3) := by decide +kernel
theorem dX4_start_69 : decode cX4_start 69 = .ok (.aload_n 0, 1) := by decide +kernel
theorem dX4_start_70 : decode cX4_start 70 = .ok (.getfield 24, 3) := by decide +kernel
theorem dX4_start_73 : decode cX4_start 73 = .ok (.iload_n 1, 1) := by decide +kernel
theorem dX4_start_74 : decode cX4_start 74 = .ok (.iload_n 2, 1) := by decide +kernel
theorem dX4_start_75 : decode cX4_start 75 = .ok (.aload_n 0, 1) := by decide +kernel
theorem dX4_start_76 : decode cX4_start 76 = .ok (.getfield 31, 3) := by decide +kernel
theorem dX4_start_79 : decode cX4_start 79 = .ok (.iload_n 1, 1) := by decide +kernel
theorem dX4_start_80 : decode cX4_start 80 = .ok (.invokevirtual 79, 3) := by decide +kernel
theorem dX4_start_83 : decode cX4_start 83 = .ok (.aload_n 0, 1) := by decide +kernel
theorem dX4_start_84 : decode cX4_start 84 = .ok (.getfield 31, 3) := by decide +kernel
theorem dX4_start_87 : decode cX4_start 87 = .ok (.iload_n 2, 1) := by decide +kernel
theorem dX4_start_88 : decode cX4_start 88 = .ok (.invokevirtual 79, 3) := by decide +kernel
theorem dX4_start_91 : decode cX4_start 91 = .ok (.if_icmp .ne 9, 3) := by decide +kernel
theorem dX4_start_94 : decode cX4_start 94 = .ok (.sipush 1000, 3) := by decide +kernel
theorem dX4_start_97 : decode cX4_start 97 = .ok (.goto 4, 3) := by decide +kernel
theorem dX4_start_100 : decode cX4_start 100 = .ok (.iconst 0, 1) := by decide +kernel
theorem dX4_start_101 : decode cX4_start 101 = .ok (.invokevirtual 75, 3) := by decide +kernel
theorem dX4_start_104 : decode cX4_start 104 = .ok (.iinc 2 1, 3) := by decide +kernel
theorem dX4_start_107 : decode cX4_start 107 = .ok (.goto (-92), 3) := by decide +kernel
theorem dX4_start_110 : decode cX4_start 110 = .ok (.iinc 1 1, 3) := by decide +kernel
theorem dX4_start_113 : decode cX4_start 113 = .ok (.goto (-111), 3) := by decide +kernel
theorem dX4_start_116 : decode cX4_start 116 = .ok (.return_, 1) := by decide +kernel
theorem dX4_sweepPairs_0 : decode cX4_sweepPairs 0 = .ok (.iconst 0, 1) := by decide +kernel
theorem dX4_sweepPairs_1 : decode cX4_sweepPairs 1 = .ok (.istore_n 1, 1) := by decide +kernel
theorem dX4_sweepPairs_2 : decode cX4_sweepPairs 2 = .ok (.iconst 0, 1) := by decide +kernel
theorem dX4_sweepPairs_3 : decode cX4_sweepPairs 3 = .ok (.istore_n 2, 1) := by decide +kernel
theorem dX4_sweepPairs_4 : decode cX4_sweepPairs 4 = .ok (.iload_n 2, 1) := by decide +kernel
theorem dX4_sweepPairs_5 : decode cX4_sweepPairs 5 = .ok (.aload_n 0, 1) := by decide +kernel
theorem dX4_sweepPairs_6 : decode cX4_sweepPairs 6 = .ok (.getfield 31, 3) := by decide +kernel
theorem dX4_sweepPairs_9 : decode cX4_sweepPairs 9 = .ok (.getfield 71, 3) := by decide +kernel
theorem dX4_sweepPairs_12 : decode cX4_sweepPairs 12 = .ok (.if_icmp .ge 54, 3) := by decide +kernel
theorem dX4_sweepPairs_15 : decode cX4_sweepPairs 15 = .ok (.iconst 0, 1) := by decide +kernel
theorem dX4_sweepPairs_16 : decode cX4_sweepPairs 16 = .ok (.istore_n 3, 1) := by decide +kernel
theorem dX4_sweepPairs_17 : decode cX4_sweepPairs 17 = .ok (.iload_n 3, 1) := by decide +kernel
theorem dX4_sweepPairs_18 : decode cX4_sweepPairs 18 = .ok (.aload_n 0, 1) := by decide +kernel
theorem dX4_sweepPairs_19 : decode cX4_sweepPairs 19 = .ok (.getfield 31, 3) := by decide +kernel
theorem dX4_sweepPairs_22 : decode cX4_sweepPairs 22 = .ok (.getfield 71, 3) := by decide +kernel
theorem dX4_sweepPairs_25 : decode cX4_sweepPairs 25 = .ok (.if_icmp .ge 35, 3) := by decide +kernel
theorem dX4_sweepPairs_28 : decode cX4_sweepPairs 28 = .ok (.aload_n 0, 1) := by decide +kernel
theorem dX4_sweepPairs_29 : decode cX4_sweepPairs 29 = .ok (.iload_n 2, 1) := by decide +kernel
theorem dX4_sweepPairs_30 : decode cX4_sweepPairs 30 = .ok (.iload_n 3, 1) := by decide +kernel
theorem dX4_sweepPairs_31 : decode cX4_sweepPairs 31 = .ok (.iconst 0, 1) := by decide +kernel
theorem dX4_sweepPairs_32 : decode cX4_sweepPairs 32 = .ok (.invokevirtual 83, 3) := by decide +kernel
theorem dX4_sweepPairs_35 : decode cX4_sweepPairs 35 = .ok (.istore 4, 2) := by decide +kernel
theorem dX4_sweepPairs_37 : decode cX4_sweepPairs 37 = .ok (.iload 4, 2) := by decide +kernel
theorem dX4_sweepPairs_39 : decode cX4_sweepPairs 39 = .ok (.aload_n 0, 1) := by decide +kernel
theorem dX4_sweepPairs_40 : decode cX4_sweepPairs 40 = .ok (.iload_n 2, 1) := by decide +kernel
theorem dX4_sweepPairs_41 : decode cX4_sweepPairs 41 = .ok (.iload_n 3, 1) := by decide +kernel
theorem dX4_sweepPairs_42 : decode cX4_sweepPairs 42 = .ok (.iconst 1, 1) := by decide +kernel
theorem dX4_sweepPairs_43 : decode cX4_sweepPairs 43 = .ok (.invokevirtual 83, 3) := by decide +kernel
theorem dX4_sweepPairs_46 : decode cX4_sweepPairs 46 = .ok (.ior, 1) := by decide +kernel
theorem dX4_sweepPairs_47 : decode cX4_sweepPairs 47 = .ok (.istore 4, 2) := by decide +kernel
theorem dX4_sweepPairs_49 : decode cX4_sweepPairs 49 = .ok (.iload_n 1, 1) := by decide +kernel
theorem dX4_sweepPairs_50 : decode cX4_sweepPairs 50 = .ok (.iload 4, 2) := by decide +kernel
theorem dX4_sweepPairs_52 : decode cX4_sweepPairs 52 = .ok (.ior, 1) := by decide +kernel
theorem dX4_sweepPairs_53 : decode cX4_sweepPairs 53 = .ok (.istore_n 1, 1) := by decide +kernel
theorem dX4_sweepPairs_54 : decode cX4_sweepPairs 54 = .ok (.iinc 3 1, 3) := by decide +kernel
theorem dX4_sweepPairs_57 : decode cX4_sweepPairs 57 = .ok (.goto (-40), 3) := by decide +kernel
theorem dX4_sweepPairs_60 : decode cX4_sweepPairs 60 = .ok (.iinc 2 1, 3) := by decide +kernel
theorem dX4_sweepPairs_63 : decode cX4_sweepPairs 63 = .ok (.goto (-59), 3) := by decide +kernel
theorem dX4_sweepPairs_66 : decode cX4_sweepPairs 66 = .ok (.iload_n 1, 1) := by decide +kernel
theorem dX4_sweepPairs_67 : decode cX4_sweepPairs 67 = .ok (.ireturn, 1) := by decide +kernel
theorem dX4_lowerBy_0 : decode cX4_lowerBy 0 = .ok (.aload_n 0, 1) := by decide +kernel
theorem dX4_lowerBy_1 : decode cX4_lowerBy 1 = .ok (.getfield 31, 3) := by decide +kernel
theorem dX4_lowerBy_4 : decode cX4_lowerBy 4 = .ok (.iload_n 1, 1) := by decide +kernel
theorem dX4_lowerBy_5 : decode cX4_lowerBy 5 = .ok (.iload_n 3, 1) := by decide +kernel
theorem dX4_lowerBy_6 : decode cX4_lowerBy 6 = .ok (.invokevirtual 49, 3) := by decide +kernel
theorem dX4_lowerBy_9 : decode cX4_lowerBy 9 = .ok (.istore 4, 2) := by decide +kernel
theorem dX4_lowerBy_11 : decode cX4_lowerBy 11 = .ok (.aload_n 0, 1) := by decide +kernel
theorem dX4_lowerBy_12 : decode cX4_lowerBy 12 = .ok (.getfield 12, 3) := by decide +kernel
theorem dX4_lowerBy_15 : decode cX4_lowerBy 15 = .ok (.iload_n 1, 1) := by decide +kernel
theorem dX4_lowerBy_16 : decode cX4_lowerBy 16 = .ok (.iload_n 2, 1) := by decide +kernel
theorem dX4_lowerBy_17 : decode cX4_lowerBy 17 = .ok (.iconst 1, 1) := by decide +kernel
theorem dX4_lowerBy_18 : decode cX4_lowerBy 18 = .ok (.aload_n 0, 1) := by decide +kernel
theorem dX4_lowerBy_19 : decode cX4_lowerBy 19 = .ok (.getfield 12, 3) := by decide +kernel
theorem dX4_lowerBy_22 : decode cX4_lowerBy 22 = .ok (.iload 4, 2) := by decide +kernel
theorem dX4_lowerBy_24 : decode cX4_lowerBy 24 = .ok (.iload_n 2, 1) := by decide +kernel
theorem dX4_lowerBy_25 : decode cX4_lowerBy 25 = .ok (.invokevirtual 45, 3) := by decide +kernel
theorem dX4_lowerBy_28 : decode cX4_lowerBy 28 = .ok (.iadd, 1) := by decide +kernel
theorem dX4_lowerBy_29 : decode cX4_lowerBy 29 = .ok (.invokevirtual 87, 3) := by decide +kernel
theorem dX4_lowerBy_32 : decode cX4_lowerBy 32 = .ok (.istore 5, 2) := by decide +kernel
theorem dX4_lowerBy_34 : decode cX4_lowerBy 34 = .ok (.iload 5, 2) := by decide +kernel
theorem dX4_lowerBy_36 : decode cX4_lowerBy 36 = .ok (.aload_n 0, 1) := by decide +kernel
theorem dX4_lowerBy_37 : decode cX4_lowerBy 37 = .ok (.getfield 18, 3) := by decide +kernel
theorem dX4_lowerBy_40 : decode cX4_lowerBy 40 = .ok (.iload_n 1, 1) := by decide +kernel
theorem dX4_lowerBy_41 : decode cX4_lowerBy 41 = .ok (.iload_n 2, 1) := by decide +kernel
theorem dX4_lowerBy_42 : decode cX4_lowerBy 42 = .ok (.aload_n 0, 1) := by decide +kernel
theorem dX4_lowerBy_43 : decode cX4_lowerBy 43 = .ok (.getfield 31, 3) := by decide +kernel
theorem dX4_lowerBy_46 : decode cX4_lowerBy 46 = .ok (.iload 4, 2) := by decide +kernel
theorem dX4_lowerBy_48 : decode cX4_lowerBy 48 = .ok (.invokevirtual 90, 3) := by decide +kernel
theorem dX4_lowerBy_51 : decode cX4_lowerBy 51 = .ok (.aload_n 0, 1) := by decide +kernel
theorem dX4_lowerBy_52 : decode cX4_lowerBy 52 = .ok (.getfield 18, 3) := by decide +kernel
theorem dX4_lowerBy_55 : decode cX4_lowerBy 55 = .ok (.iload 4, 2) := by decide +kernel
theorem dX4_lowerBy_57 : decode cX4_lowerBy 57 = .ok (.iload_n 2, 1) := by decide +kernel
theorem dX4_lowerBy_58 : decode cX4_lowerBy 58 = .ok (.invokevirtual 45, 3) := by decide +kernel
theorem dX4_lowerBy_61 : decode cX4_lowerBy 61 = .ok (.iadd, 1) := by decide +kernel
theorem dX4_lowerBy_62 : decode cX4_lowerBy 62 = .ok (.invokevirtual 87, 3) := by decide +kernel
theorem dX4_lowerBy_65 : decode cX4_lowerBy 65 = .ok (.ior, 1) := by decide +kernel
theorem dX4_lowerBy_66 : decode cX4_lowerBy 66 = .ok (.istore 5, 2) := by decide +kernel
theorem dX4_lowerBy_68 : decode cX4_lowerBy 68 = .ok (.iload 5, 2) := by decide +kernel
theorem dX4_lowerBy_70 : decode cX4_lowerBy 70 = .ok (.aload_n 0, 1) := by decide +kernel
theorem dX4_lowerBy_71 : decode cX4_lowerBy 71 = .ok (.getfield 21, 3) := by decide +kernel
theorem dX4_lowerBy_74 : decode cX4_lowerBy 74 = .ok (.iload_n 1, 1) := by decide +kernel
theorem dX4_lowerBy_75 : decode cX4_lowerBy 75 = .ok (.iload_n 2, 1) := by decide +kernel
theorem dX4_lowerBy_76 : decode cX4_lowerBy 76 = .ok (.iconst 1, 1) := by decide +kernel
theorem dX4_lowerBy_77 : decode cX4_lowerBy 77 = .ok (.aload_n 0, 1) := by decide +kernel
theorem dX4_lowerBy_78 : decode cX4_lowerBy 78 = .ok (.getfield 21, 3) := by decide +kernel
theorem dX4_lowerBy_81 : decode cX4_lowerBy 81 = .ok (.iload 4, 2) := by decide +kernel
theorem dX4_lowerBy_83 : decode cX4_lowerBy 83 = .ok (.aload_n 0, 1) := by decide +kernel
theorem dX4_lowerBy_84 : decode cX4_lowerBy 84 = .ok (.getfield 31, 3) := by decide +kernel
theorem dX4_lowerBy_87 : decode cX4_lowerBy 87 = .ok (.iload_n 2, 1) := by decide +kernel
theorem dX4_lowerBy_88 : decode cX4_lowerBy 88 = .ok (.iconst 0, 1) := by decide +kernel
theorem dX4_lowerBy_89 : decode cX4_lowerBy 89 = .ok (.invokevirtual 49, 3) := by decide +kernel
theorem dX4_lowerBy_92 : decode cX4_lowerBy 92 = .ok (.invokevirtual 45, 3) := by decide +kernel
theorem dX4_lowerBy_95 : decode cX4_lowerBy 95 = .ok (.iadd, 1) := by decide +kernel
theorem dX4_lowerBy_96 : decode cX4_lowerBy 96 = .ok (.invokevirtual 87, 3) := by decide +kernel
theorem dX4_lowerBy_99 : decode cX4_lowerBy 99 = .ok (.ior, 1) := by decide +kernel
theorem dX4_lowerBy_100 : decode cX4_lowerBy 100 = .ok (.istore 5, 2) := by decide +kernel
theorem dX4_lowerBy_102 : decode cX4_lowerBy 102 = .ok (.iload 5, 2) := by decide +kernel
theorem dX4_lowerBy_104 : decode cX4_lowerBy 104 = .ok (.aload_n 0, 1) := by decide +kernel
theorem dX4_lowerBy_105 : decode cX4_lowerBy 105 = .ok (.getfield 21, 3) := by decide +kernel
theorem dX4_lowerBy_108 : decode cX4_lowerBy 108 = .ok (.iload_n 1, 1) := by decide +kernel
theorem dX4_lowerBy_109 : decode cX4_lowerBy 109 = .ok (.iload_n 2, 1) := by decide +kernel
theorem dX4_lowerBy_110 : decode cX4_lowerBy 110 = .ok (.iconst 1, 1) := by decide +kernel
theorem dX4_lowerBy_111 : decode cX4_lowerBy 111 = .ok (.aload_n 0, 1) := by decide +kernel
theorem dX4_lowerBy_112 : decode cX4_lowerBy 112 = .ok (.getfield 21, 3) := by decide +kernel
theorem dX4_lowerBy_115 : decode cX4_lowerBy 115 = .ok (.iload 4, 2) := by decide +kernel
theorem dX4_lowerBy_117 : decode cX4_lowerBy 117 = .ok (.aload_n 0, 1) := by decide +kernel
theorem dX4_lowerBy_118 : decode cX4_lowerBy 118 = .ok (.getfield 31, 3) := by decide +kernel
theorem dX4_lowerBy_121 : decode cX4_lowerBy 121 = .ok (.iload_n 2, 1) := by decide +kernel
theorem dX4_lowerBy_122 : decode cX4_lowerBy 122 = .ok (.iconst 1, 1) := by decide +kernel
theorem dX4_lowerBy_123 : decode cX4_lowerBy 123 = .ok (.invokevirtual 49, 3) := by decide +kernel
theorem dX4_lowerBy_126 : decode cX4_lowerBy 126 = .ok (.invokevirtual 45, 3) := by decide +kernel
theorem dX4_lowerBy_129 : decode cX4_lowerBy 129 = .ok (.iadd, 1) := by decide +kernel
theorem dX4_lowerBy_130 : decode cX4_lowerBy 130 = .ok (.invokevirtual 87, 3) := by decide +kernel
theorem dX4_lowerBy_133 : decode cX4_lowerBy 133 = .ok (.ior, 1) := by decide +kernel
theorem dX4_lowerBy_134 : decode cX4_lowerBy 134 = .ok (.istore 5, 2) := by decide +kernel
theorem dX4_lowerBy_136 : decode cX4_lowerBy 136 = .ok (.iload 5, 2) := by decide +kernel
theorem dX4_lowerBy_138 : decode cX4_lowerBy 138 = .ok (.aload_n 0, 1) := by decide +kernel
theorem dX4_lowerBy_139 : decode cX4_lowerBy 139 = .ok (.getfield 24, 3) := by decide +kernel
theorem dX4_lowerBy_142 : decode cX4_lowerBy 142 = .ok (.iload_n 1, 1) := by decide +kernel
theorem dX4_lowerBy_143 : decode cX4_lowerBy 143 = .ok (.iload_n 2, 1) := by decide +kernel
theorem dX4_lowerBy_144 : decode cX4_lowerBy 144 = .ok (.iconst 1, 1) := by decide +kernel
theorem dX4_lowerBy_145 : decode cX4_lowerBy 145 = .ok (.aload_n 0, 1) := by decide +kernel
theorem dX4_lowerBy_146 : decode cX4_lowerBy 146 = .ok (.iload_n 1, 1) := by decide +kernel
theorem dX4_lowerBy_147 : decode cX4_lowerBy 147 = .ok (.iload_n 2, 1) := by decide +kernel
theorem dX4_lowerBy_148 : decode cX4_lowerBy 148 = .ok (.iload_n 3, 1) := by decide +kernel
theorem dX4_lowerBy_149 : decode cX4_lowerBy 149 = .ok (.invokevirtual 58, 3) := by decide +kernel
theorem dX4_lowerBy_152 : decode cX4_lowerBy 152 = .ok (.iadd, 1) := by decide +kernel
theorem dX4_lowerBy_153 : decode cX4_lowerBy 153 = .ok (.invokevirtual 87, 3) := by decide +kernel
theorem dX4_lowerBy_156 : decode cX4_lowerBy 156 = .ok (.ior, 1) := by decide +kernel
theorem dX4_lowerBy_157 : decode cX4_lowerBy 157 = .ok (.istore 5, 2) := by decide +kernel
theorem dX4_lowerBy_159 : decode cX4_lowerBy 159 = .ok (.iload 5, 2) := by decide +kernel
theorem dX4_lowerBy_161 : decode cX4_lowerBy 161 = .ok (.ireturn, 1) := by decide +kernel
theorem dX4_apartAfter_0 : decode cX4_apartAfter 0 = .ok (.aload_n 0, 1) := by decide +kernel
theorem dX4_apartAfter_1 : decode cX4_apartAfter 1 = .ok (.getfield 24, 3) := by decide +kernel
theorem dX4_apartAfter_4 : decode cX4_apartAfter 4 = .ok (.aload_n 0, 1) := by decide +kernel
theorem dX4_apartAfter_5 : decode cX4_apartAfter 5 = .ok (.getfield 31, 3) := by decide +kernel
theorem dX4_apartAfter_8 : decode cX4_apartAfter 8 = .ok (.iload_n 1, 1) := by decide +kernel
theorem dX4_apartAfter_9 : decode cX4_apartAfter 9 = .ok (.iload_n 3, 1) := by decide +kernel
theorem dX4_apartAfter_10 : decode cX4_apartAfter 10 = .ok (.invokevirtual 49, 3) := by decide +kernel
theorem dX4_apartAfter_13 : decode cX4_apartAfter 13 = .ok (.aload_n 0, 1) := by decide +kernel
theorem dX4_apartAfter_14 : decode cX4_apartAfter 14 = .ok (.getfield 31, 3) := by decide +kernel
theorem dX4_apartAfter_17 : decode cX4_apartAfter 17 = .ok (.iload_n 2, 1) := by decide +kernel
theorem dX4_apartAfter_18 : decode cX4_apartAfter 18 = .ok (.iload_n 3, 1) := by decide +kernel
theorem dX4_apartAfter_19 : decode cX4_apartAfter 19 = .ok (.invokevirtual 49, 3) := by decide +kernel
theorem dX4_apartAfter_22 : decode cX4_apartAfter 22 = .ok (.invokevirtual 45, 3) := by decide +kernel
theorem dX4_apartAfter_25 : decode cX4_apartAfter 25 = .ok (.ireturn, 1) := by decide +kernel
theorem dX4_roundAfter_0 : decode cX4_roundAfter 0 = .ok (.aload_n 0, 1) := by decide +kernel
theorem dX4_roundAfter_1 : decode cX4_roundAfter 1 = .ok (.getfield 31, 3) := by decide +kernel
theorem dX4_roundAfter_4 : decode cX4_roundAfter 4 = .ok (.iload_n 1, 1) := by decide +kernel
theorem dX4_roundAfter_5 : decode cX4_roundAfter 5 = .ok (.iload_n 2, 1) := by decide +kernel
theorem dX4_roundAfter_6 : decode cX4_roundAfter 6 = .ok (.invokevirtual 49, 3) := by decide +kernel
theorem dX4_roundAfter_9 : decode cX4_roundAfter 9 = .ok (.istore_n 3, 1) := by decide +kernel
theorem dX4_roundAfter_10 : decode cX4_roundAfter 10 = .ok (.aload_n 0, 1) := by decide +kernel
theorem dX4_roundAfter_11 : decode cX4_roundAfter 11 = .ok (.iconst 1, 1) := by decide +kernel
theorem dX4_roundAfter_12 : decode cX4_roundAfter 12 = .ok (.iload_n 1, 1) := by decide +kernel
theorem dX4_roundAfter_13 : decode cX4_roundAfter 13 = .ok (.ishl, 1) := by decide +kernel
theorem dX4_roundAfter_14 : decode cX4_roundAfter 14 = .ok (.iconst 1, 1) := by decide +kernel
theorem dX4_roundAfter_15 : decode cX4_roundAfter 15 = .ok (.iload_n 3, 1) := by decide +kernel
theorem dX4_roundAfter_16 : decode cX4_roundAfter 16 = .ok (.ishl, 1) := by decide +kernel
theorem dX4_roundAfter_17 : decode cX4_roundAfter 17 = .ok (.ior, 1) := by decide +kernel
theorem dX4_roundAfter_18 : decode cX4_roundAfter 18 = .ok (.iload_n 3, 1) := by decide +kernel
theorem dX4_roundAfter_19 : decode cX4_roundAfter 19 = .ok (.invokevirtual 61, 3) := by decide +kernel
theorem dX4_roundAfter_22 : decode cX4_roundAfter 22 = .ok (.ireturn, 1) := by decide +kernel
theorem dX4_workOutRounds_0 : decode cX4_workOutRounds 0 = .ok (.iconst 1, 1) := by decide +kernel
theorem dX4_workOutRounds_1 : decode cX4_workOutRounds 1 = .ok (.aload_n 0, 1) := by decide +kernel
theorem dX4_workOutRounds_2 : decode cX4_workOutRounds 2 = .ok (.getfield 31, 3) := by decide +kernel
theorem dX4_workOutRounds_5 : decode cX4_workOutRounds 5 = .ok (.getfield 71, 3) := by decide +kernel
theorem dX4_workOutRounds_8 : decode cX4_workOutRounds 8 = .ok (.ishl, 1) := by decide +kernel
theorem dX4_workOutRounds_9 : decode cX4_workOutRounds 9 = .ok (.iconst 1, 1) := by decide +kernel
theorem dX4_workOutRounds_10 : decode cX4_workOutRounds 10 = .ok (.isub, 1) := by decide +kernel
theorem dX4_workOutRounds_11 : decode cX4_workOutRounds 11 = .ok (.istore_n 1, 1) := by decide +kernel
theorem dX4_workOutRounds_12 : decode cX4_workOutRounds 12 = .ok (.iload_n 1, 1) := by decide +kernel
theorem dX4_workOutRounds_13 : decode cX4_workOutRounds 13 = .ok (.istore_n 2, 1) := by decide +kernel
theorem dX4_workOutRounds_14 : decode cX4_workOutRounds 14 = .ok (.iload_n 2, 1) := by decide +kernel
theorem dX4_workOutRounds_15 : decode cX4_workOutRounds 15 = .ok (.ifCond .le 60, 3) := by decide +kernel
theorem dX4_workOutRounds_18 : decode cX4_workOutRounds 18 = .ok (.iconst 0, 1) := by decide +kernel
theorem dX4_workOutRounds_19 : decode cX4_workOutRounds 19 = .ok (.istore_n 3, 1) := by decide +kernel
theorem dX4_workOutRounds_20 : decode cX4_workOutRounds 20 = .ok (.iload_n 3, 1) := by decide +kernel
theorem dX4_workOutRounds_21 : decode cX4_workOutRounds 21 = .ok (.aload_n 0, 1) := by decide +kernel
theorem dX4_workOutRounds_22 : decode cX4_workOutRounds 22 = .ok (.getfield 31, 3) := by decide +kernel
theorem dX4_workOutRounds_25 : decode cX4_workOutRounds 25 = .ok (.getfield 71, 3) := by decide +kernel
theorem dX4_workOutRounds_28 : decode cX4_workOutRounds 28 = .ok (.if_icmp .ge 41, 3) := by decide +kernel
theorem dX4_workOutRounds_31 : decode cX4_workOutRounds 31 = .ok (.iload_n 2, 1) := by decide +kernel
theorem dX4_workOutRounds_32 : decode cX4_workOutRounds 32 = .ok (.iload_n 1, 1) := by decide +kernel
theorem dX4_workOutRounds_33 : decode cX4_workOutRounds 33 = .ok (.if_icmp .ne 7, 3) := by decide +kernel
theorem dX4_workOutRounds_36 : decode cX4_workOutRounds 36 = .ok (.iconst 0, 1) := by decide +kernel
theorem dX4_workOutRounds_37 : decode cX4_workOutRounds 37 = .ok (.goto 9, 3) := by decide +kernel
theorem dX4_workOutRounds_40 : decode cX4_workOutRounds 40 = .ok (.aload_n 0, 1) := by decide +kernel
theorem dX4_workOutRounds_41 : decode cX4_workOutRounds 41 = .ok (.iload_n 2, 1) := by decide +kernel
theorem dX4_workOutRounds_42 : decode cX4_workOutRounds 42 = .ok (.iload_n 3, 1) := by decide +kernel
theorem dX4_workOutRounds_43 : decode cX4_workOutRounds 43 = .ok (.invokevirtual 93, 3) := by decide +kernel
theorem dX4_workOutRounds_46 : decode cX4_workOutRounds 46 = .ok (.istore 4, 2) := by decide +kernel
theorem dX4_workOutRounds_48 : decode cX4_workOutRounds 48 = .ok (.aload_n 0, 1) := by decide +kernel
theorem dX4_workOutRounds_49 : decode cX4_workOutRounds 49 = .ok (.getfield 27, 3) := by decide +kernel
theorem dX4_workOutRounds_52 : decode cX4_workOutRounds 52 = .ok (.iload_n 2, 1) := by decide +kernel
theorem dX4_workOutRounds_53 : decode cX4_workOutRounds 53 = .ok (.bipush 6, 2) := by decide +kernel
theorem dX4_workOutRounds_55 : decode cX4_workOutRounds 55 = .ok (.imul, 1) := by decide +kernel
theorem dX4_workOutRounds_56 : decode cX4_workOutRounds 56 = .ok (.iload_n 3, 1) := by decide +kernel
theorem dX4_workOutRounds_57 : decode cX4_workOutRounds 57 = .ok (.iadd, 1) := by decide +kernel
theorem dX4_workOutRounds_58 : decode cX4_workOutRounds 58 = .ok (.iload 4, 2) := by decide +kernel
theorem dX4_workOutRounds_60 : decode cX4_workOutRounds 60 = .ok (.invokestatic 96, 3) := by decide +kernel
theorem dX4_workOutRounds_63 : decode cX4_workOutRounds 63 = .ok (.iinc 3 1, 3) := by decide +kernel
theorem dX4_workOutRounds_66 : decode cX4_workOutRounds 66 = .ok (.goto (-46), 3) := by decide +kernel
theorem dX4_workOutRounds_69 : decode cX4_workOutRounds 69 = .ok (.iinc 2 (-1), 3) := by decide +kernel
theorem dX4_workOutRounds_72 : decode cX4_workOutRounds 72 = .ok (.goto (-58), 3) := by decide +kernel
theorem dX4_workOutRounds_75 : decode cX4_workOutRounds 75 = .ok (.return_, 1) := by decide +kernel
theorem dX4_leastOfRound_0 : decode cX4_leastOfRound 0 = .ok (.sipush 1000, 3) := by decide +kernel
theorem dX4_leastOfRound_3 : decode cX4_leastOfRound 3 = .ok (.istore_n 3, 1) := by decide +kernel
theorem dX4_leastOfRound_4 : decode cX4_leastOfRound 4 = .ok (.iconst 0, 1) := by decide +kernel
theorem dX4_leastOfRound_5 : decode cX4_leastOfRound 5 = .ok (.istore 4, 2) := by decide +kernel
theorem dX4_leastOfRound_7 : decode cX4_leastOfRound 7 = .ok (.iload 4, 2) := by decide +kernel
theorem dX4_leastOfRound_9 : decode cX4_leastOfRound 9 = .ok (.aload_n 0, 1) := by decide +kernel
theorem dX4_leastOfRound_10 : decode cX4_leastOfRound 10 = .ok (.getfield 31, 3) := by decide +kernel
theorem dX4_leastOfRound_13 : decode cX4_leastOfRound 13 = .ok (.getfield 71, 3) := by decide +kernel
theorem dX4_leastOfRound_16 : decode cX4_leastOfRound 16 = .ok (.if_icmp .ge 46, 3) := by decide +kernel
theorem dX4_leastOfRound_19 : decode cX4_leastOfRound 19 = .ok (.iload_n 1, 1) := by decide +kernel
theorem dX4_leastOfRound_20 : decode cX4_leastOfRound 20 = .ok (.iload 4, 2) := by decide +kernel
theorem dX4_leastOfRound_22 : decode cX4_leastOfRound 22 = .ok (.invokestatic 100, 3) := by decide +kernel
theorem dX4_leastOfRound_25 : decode cX4_leastOfRound 25 = .ok (.ifCond .ne 31, 3) := by decide +kernel
theorem dX4_leastOfRound_28 : decode cX4_leastOfRound 28 = .ok (.iload_n 3, 1) := by decide +kernel
theorem dX4_leastOfRound_29 : decode cX4_leastOfRound 29 = .ok (.aload_n 0, 1) := by decide +kernel
theorem dX4_leastOfRound_30 : decode cX4_leastOfRound 30 = .ok (.getfield 12, 3) := by decide +kernel
theorem dX4_leastOfRound_33 : decode cX4_leastOfRound 33 = .ok (.iload_n 2, 1) := by decide +kernel
theorem dX4_leastOfRound_34 : decode cX4_leastOfRound 34 = .ok (.iload 4, 2) := by decide +kernel
theorem dX4_leastOfRound_36 : decode cX4_leastOfRound 36 = .ok (.invokevirtual 45, 3) := by decide +kernel
theorem dX4_leastOfRound_39 : decode cX4_leastOfRound 39 = .ok (.aload_n 0, 1) := by decide +kernel
theorem dX4_leastOfRound_40 : decode cX4_leastOfRound 40 = .ok (.iload_n 1, 1) := by decide +kernel
theorem dX4_leastOfRound_41 : decode cX4_leastOfRound 41 = .ok (.iconst 1, 1) := by decide +kernel
theorem dX4_leastOfRound_42 : decode cX4_leastOfRound 42 = .ok (.iload 4, 2) := by decide +kernel
theorem dX4_leastOfRound_44 : decode cX4_leastOfRound 44 = .ok (.ishl, 1) := by decide +kernel
theorem dX4_leastOfRound_45 : decode cX4_leastOfRound 45 = .ok (.ior, 1) := by decide +kernel
theorem dX4_leastOfRound_46 : decode cX4_leastOfRound 46 = .ok (.iload 4, 2) := by decide +kernel
theorem dX4_leastOfRound_48 : decode cX4_leastOfRound 48 = .ok (.invokevirtual 61, 3) := by decide +kernel
theorem dX4_leastOfRound_51 : decode cX4_leastOfRound 51 = .ok (.iadd, 1) := by decide +kernel
theorem dX4_leastOfRound_52 : decode cX4_leastOfRound 52 = .ok (.invokestatic 104, 3) := by decide +kernel
theorem dX4_leastOfRound_55 : decode cX4_leastOfRound 55 = .ok (.istore_n 3, 1) := by decide +kernel
theorem dX4_leastOfRound_56 : decode cX4_leastOfRound 56 = .ok (.iinc 4 1, 3) := by decide +kernel
theorem dX4_leastOfRound_59 : decode cX4_leastOfRound 59 = .ok (.goto (-52), 3) := by decide +kernel
theorem dX4_leastOfRound_62 : decode cX4_leastOfRound 62 = .ok (.iload_n 3, 1) := by decide +kernel
theorem dX4_leastOfRound_63 : decode cX4_leastOfRound 63 = .ok (.ireturn, 1) := by decide +kernel
theorem dX4_firstBy_0 : decode cX4_firstBy 0 = .ok (.iload_n 0, 1) := by decide +kernel
theorem dX4_firstBy_1 : decode cX4_firstBy 1 = .ok (.ifCond .eq 10, 3) := by decide +kernel
theorem dX4_firstBy_4 : decode cX4_firstBy 4 = .ok (.iload_n 0, 1) := by decide +kernel
theorem dX4_firstBy_5 : decode cX4_firstBy 5 = .ok (.sipush 1000, 3) := by decide +kernel
theorem dX4_firstBy_8 : decode cX4_firstBy 8 = .ok (.if_icmp .lt 5, 3) := by decide +kernel
theorem dX4_firstBy_11 : decode cX4_firstBy 11 = .ok (.iconst (-1), 1) := by decide +kernel
theorem dX4_firstBy_12 : decode cX4_firstBy 12 = .ok (.ireturn, 1) := by decide +kernel
theorem dX4_firstBy_13 : decode cX4_firstBy 13 = .ok (.iload_n 1, 1) := by decide +kernel
theorem dX4_firstBy_14 : decode cX4_firstBy 14 = .ok (.iload_n 2, 1) := by decide +kernel
theorem dX4_firstBy_15 : decode cX4_firstBy 15 = .ok (.if_icmp .gt 7, 3) := by decide +kernel
theorem dX4_firstBy_18 : decode cX4_firstBy 18 = .ok (.iconst 0, 1) := by decide +kernel
theorem dX4_firstBy_19 : decode cX4_firstBy 19 = .ok (.goto 4, 3) := by decide +kernel
theorem dX4_firstBy_22 : decode cX4_firstBy 22 = .ok (.iconst 1, 1) := by decide +kernel
theorem dX4_firstBy_23 : decode cX4_firstBy 23 = .ok (.ireturn, 1) := by decide +kernel
theorem dX5_init_0 : decode cX5_init 0 = .ok (.aload_n 0, 1) := by decide +kernel
theorem dX5_init_1 : decode cX5_init 1 = .ok (.invokespecial 3, 3) := by decide +kernel
theorem dX5_init_4 : decode cX5_init 4 = .ok (.aload_n 0, 1) := by decide +kernel
theorem dX5_init_5 : decode cX5_init 5 = .ok (.new 9, 3) := by decide +kernel
theorem dX5_init_8 : decode cX5_init 8 = .ok (.dup, 1) := by decide +kernel
theorem dX5_init_9 : decode cX5_init 9 = .ok (.invokespecial 11, 3) := by decide +kernel
theorem dX5_init_12 : decode cX5_init 12 = .ok (.putfield 12, 3) := by decide +kernel
theorem dX5_init_15 : decode cX5_init 15 = .ok (.aload_n 0, 1) := by decide +kernel
theorem dX5_init_16 : decode cX5_init 16 = .ok (.new 16, 3) := by decide +kernel
theorem dX5_init_19 : decode cX5_init 19 = .ok (.dup, 1) := by decide +kernel
theorem dX5_init_20 : decode cX5_init 20 = .ok (.invokespecial 18, 3) := by decide +kernel
theorem dX5_init_23 : decode cX5_init 23 = .ok (.putfield 19, 3) := by decide +kernel
theorem dX5_init_26 : decode cX5_init 26 = .ok (.aload_n 0, 1) := by decide +kernel
theorem dX5_init_27 : decode cX5_init 27 = .ok (.new 23, 3) := by decide +kernel
theorem dX5_init_30 : decode cX5_init 30 = .ok (.dup, 1) := by decide +kernel
theorem dX5_init_31 : decode cX5_init 31 = .ok (.aload_n 0, 1) := by decide +kernel
theorem dX5_init_32 : decode cX5_init 32 = .ok (.getfield 19, 3) := by decide +kernel
theorem dX5_init_35 : decode cX5_init 35 = .ok (.invokespecial 25, 3) := by decide +kernel
theorem dX5_init_38 : decode cX5_init 38 = .ok (.putfield 28, 3) := by decide +kernel
theorem dX5_init_41 : decode cX5_init 41 = .ok (.aload_n 0, 1) := by decide +kernel
theorem dX5_init_42 : decode cX5_init 42 = .ok (.new 32, 3) := by decide +kernel
theorem dX5_init_45 : decode cX5_init 45 = .ok (.dup, 1) := by decide +kernel
theorem dX5_init_46 : decode cX5_init 46 = .ok (.invokespecial 34, 3) := by decide +kernel
theorem dX5_init_49 : decode cX5_init 49 = .ok (.putfield 35, 3) := by decide +kernel
theorem dX5_init_52 : decode cX5_init 52 = .ok (.aload_n 0, 1) := by decide +kernel
theorem dX5_init_53 : decode cX5_init 53 = .ok (.new 32, 3) := by decide +kernel
theorem dX5_init_56 : decode cX5_init 56 = .ok (.dup, 1) := by decide +kernel
theorem dX5_init_57 : decode cX5_init 57 = .ok (.invokespecial 34, 3) := by decide +kernel
theorem dX5_init_60 : decode cX5_init 60 = .ok (.putfield 39, 3) := by decide +kernel
theorem dX5_init_63 : decode cX5_init 63 = .ok (.return_, 1) := by decide +kernel
theorem dX5_letter_0 : decode cX5_letter 0 = .ok (.iload_n 1, 1) := by decide +kernel
theorem dX5_letter_1 : decode cX5_letter 1 = .ok (.iconst 1, 1) := by decide +kernel
theorem dX5_letter_2 : decode cX5_letter 2 = .ok (.if_icmp .lt 9, 3) := by decide +kernel
theorem dX5_letter_5 : decode cX5_letter 5 = .ok (.iload_n 1, 1) := by decide +kernel
theorem dX5_letter_6 : decode cX5_letter 6 = .ok (.bipush 126, 2) := by decide +kernel
theorem dX5_letter_8 : decode cX5_letter 8 = .ok (.if_icmp .le 6, 3) := by decide +kernel
theorem dX5_letter_11 : decode cX5_letter 11 = .ok (.bipush (-102), 2) := by decide +kernel
theorem dX5_letter_13 : decode cX5_letter 13 = .ok (.ireturn, 1) := by decide +kernel
theorem dX5_letter_14 : decode cX5_letter 14 = .ok (.aload_n 0, 1) := by decide +kernel
theorem dX5_letter_15 : decode cX5_letter 15 = .ok (.getfield 12, 3) := by decide +kernel
theorem dX5_letter_18 : decode cX5_letter 18 = .ok (.getfield 42, 3) := by decide +kernel
theorem dX5_letter_21 : decode cX5_letter 21 = .ok (.bipush 28, 2) := by decide +kernel
theorem dX5_letter_23 : decode cX5_letter 23 = .ok (.if_icmp .lt 6, 3) := by decide +kernel
theorem dX5_letter_26 : decode cX5_letter 26 = .ok (.bipush (-104), 2) := by decide +kernel
theorem dX5_letter_28 : decode cX5_letter 28 = .ok (.ireturn, 1) := by decide +kernel
theorem dX5_letter_29 : decode cX5_letter 29 = .ok (.aload_n 0, 1) := by decide +kernel
theorem dX5_letter_30 : decode cX5_letter 30 = .ok (.getfield 12, 3) := by decide +kernel
theorem dX5_letter_33 : decode cX5_letter 33 = .ok (.iload_n 1, 1) := by decide +kernel
theorem dX5_letter_34 : decode cX5_letter 34 = .ok (.invokevirtual 46, 3) := by decide +kernel
theorem dX5_letter_37 : decode cX5_letter 37 = .ok (.aload_n 0, 1) := by decide +kernel
theorem dX5_letter_38 : decode cX5_letter 38 = .ok (.getfield 12, 3) := by decide +kernel
theorem dX5_letter_41 : decode cX5_letter 41 = .ok (.getfield 42, 3) := by decide +kernel
theorem dX5_letter_44 : decode cX5_letter 44 = .ok (.ireturn, 1) := by decide +kernel
theorem dX5_blank_0 : decode cX5_blank 0 = .ok (.aload_n 0, 1) := by decide +kernel
theorem dX5_blank_1 : decode cX5_blank 1 = .ok (.getfield 12, 3) := by decide +kernel
theorem dX5_blank_4 : decode cX5_blank 4 = .ok (.getfield 42, 3) := by decide +kernel
theorem dX5_blank_7 : decode cX5_blank 7 = .ok (.istore_n 1, 1) := by decide +kernel
theorem dX5_blank_8 : decode cX5_blank 8 = .ok (.aload_n 0, 1) := by decide +kernel
theorem dX5_blank_9 : decode cX5_blank 9 = .ok (.getfield 12, 3) := by decide +kernel
theorem dX5_blank_12 : decode cX5_blank 12 = .ok (.iconst 0, 1) := by decide +kernel
theorem dX5_blank_13 : decode cX5_blank 13 = .ok (.putfield 42, 3) := by decide +kernel
theorem dX5_blank_16 : decode cX5_blank 16 = .ok (.iload_n 1, 1) := by decide +kernel
theorem dX5_blank_17 : decode cX5_blank 17 = .ok (.ireturn, 1) := by decide +kernel
theorem dX5_fault_0 : decode cX5_fault 0 = .ok (.aload_n 0, 1) := by decide +kernel
theorem dX5_fault_1 : decode cX5_fault 1 = .ok (.getfield 12, 3) := by decide +kernel
theorem dX5_fault_4 : decode cX5_fault 4 = .ok (.invokevirtual 50, 3) := by decide +kernel
theorem dX5_fault_7 : decode cX5_fault 7 = .ok (.ireturn, 1) := by decide +kernel
theorem dX5_mine_0 : decode cX5_mine 0 = .ok (.aload_n 0, 1) := by decide +kernel
theorem dX5_mine_1 : decode cX5_mine 1 = .ok (.getfield 12, 3) := by decide +kernel
