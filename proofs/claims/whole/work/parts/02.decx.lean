theorem dX0_init_0 : decode cX0_init 0 = .ok (.aload_n 0, 1) := by decide +kernel
theorem dX0_init_1 : decode cX0_init 1 = .ok (.invokespecial 3, 3) := by decide +kernel
theorem dX0_init_4 : decode cX0_init 4 = .ok (.aload_n 0, 1) := by decide +kernel
theorem dX0_init_5 : decode cX0_init 5 = .ok (.bipush 6, 2) := by decide +kernel
theorem dX0_init_7 : decode cX0_init 7 = .ok (.anewarray 9, 3) := by decide +kernel
theorem dX0_init_10 : decode cX0_init 10 = .ok (.putfield 11, 3) := by decide +kernel
theorem dX0_init_13 : decode cX0_init 13 = .ok (.aload_n 0, 1) := by decide +kernel
theorem dX0_init_14 : decode cX0_init 14 = .ok (.bipush 8, 2) := by decide +kernel
theorem dX0_init_16 : decode cX0_init 16 = .ok (.anewarray 17, 3) := by decide +kernel
theorem dX0_init_19 : decode cX0_init 19 = .ok (.putfield 19, 3) := by decide +kernel
theorem dX0_init_22 : decode cX0_init 22 = .ok (.aload_n 0, 1) := by decide +kernel
theorem dX0_init_23 : decode cX0_init 23 = .ok (.bipush 6, 2) := by decide +kernel
theorem dX0_init_25 : decode cX0_init 25 = .ok (.newarray .int, 2) := by decide +kernel
theorem dX0_init_27 : decode cX0_init 27 = .ok (.putfield 23, 3) := by decide +kernel
theorem dX0_init_30 : decode cX0_init 30 = .ok (.aload_n 0, 1) := by decide +kernel
theorem dX0_init_31 : decode cX0_init 31 = .ok (.iconst 0, 1) := by decide +kernel
theorem dX0_init_32 : decode cX0_init 32 = .ok (.putfield 27, 3) := by decide +kernel
theorem dX0_init_35 : decode cX0_init 35 = .ok (.aload_n 0, 1) := by decide +kernel
theorem dX0_init_36 : decode cX0_init 36 = .ok (.iconst 0, 1) := by decide +kernel
theorem dX0_init_37 : decode cX0_init 37 = .ok (.putfield 31, 3) := by decide +kernel
theorem dX0_init_40 : decode cX0_init 40 = .ok (.aload_n 0, 1) := by decide +kernel
theorem dX0_init_41 : decode cX0_init 41 = .ok (.iconst 1, 1) := by decide +kernel
theorem dX0_init_42 : decode cX0_init 42 = .ok (.putfield 34, 3) := by decide +kernel
theorem dX0_init_45 : decode cX0_init 45 = .ok (.aload_n 0, 1) := by decide +kernel
theorem dX0_init_46 : decode cX0_init 46 = .ok (.iconst 0, 1) := by decide +kernel
theorem dX0_init_47 : decode cX0_init 47 = .ok (.putfield 37, 3) := by decide +kernel
theorem dX0_init_50 : decode cX0_init 50 = .ok (.iconst 0, 1) := by decide +kernel
theorem dX0_init_51 : decode cX0_init 51 = .ok (.istore_n 1, 1) := by decide +kernel
theorem dX0_init_52 : decode cX0_init 52 = .ok (.iload_n 1, 1) := by decide +kernel
theorem dX0_init_53 : decode cX0_init 53 = .ok (.bipush 6, 2) := by decide +kernel
theorem dX0_init_55 : decode cX0_init 55 = .ok (.if_icmp .ge 22, 3) := by decide +kernel
theorem dX0_init_58 : decode cX0_init 58 = .ok (.aload_n 0, 1) := by decide +kernel
theorem dX0_init_59 : decode cX0_init 59 = .ok (.getfield 11, 3) := by decide +kernel
theorem dX0_init_62 : decode cX0_init 62 = .ok (.iload_n 1, 1) := by decide +kernel
theorem dX0_init_63 : decode cX0_init 63 = .ok (.new 9, 3) := by decide +kernel
theorem dX0_init_66 : decode cX0_init 66 = .ok (.dup, 1) := by decide +kernel
theorem dX0_init_67 : decode cX0_init 67 = .ok (.invokespecial 40, 3) := by decide +kernel
theorem dX0_init_70 : decode cX0_init 70 = .ok (.aastore, 1) := by decide +kernel
theorem dX0_init_71 : decode cX0_init 71 = .ok (.iinc 1 1, 3) := by decide +kernel
theorem dX0_init_74 : decode cX0_init 74 = .ok (.goto (-22), 3) := by decide +kernel
theorem dX0_init_77 : decode cX0_init 77 = .ok (.iconst 0, 1) := by decide +kernel
theorem dX0_init_78 : decode cX0_init 78 = .ok (.istore_n 1, 1) := by decide +kernel
theorem dX0_init_79 : decode cX0_init 79 = .ok (.iload_n 1, 1) := by decide +kernel
theorem dX0_init_80 : decode cX0_init 80 = .ok (.bipush 8, 2) := by decide +kernel
theorem dX0_init_82 : decode cX0_init 82 = .ok (.if_icmp .ge 22, 3) := by decide +kernel
theorem dX0_init_85 : decode cX0_init 85 = .ok (.aload_n 0, 1) := by decide +kernel
theorem dX0_init_86 : decode cX0_init 86 = .ok (.getfield 19, 3) := by decide +kernel
theorem dX0_init_89 : decode cX0_init 89 = .ok (.iload_n 1, 1) := by decide +kernel
theorem dX0_init_90 : decode cX0_init 90 = .ok (.new 17, 3) := by decide +kernel
theorem dX0_init_93 : decode cX0_init 93 = .ok (.dup, 1) := by decide +kernel
theorem dX0_init_94 : decode cX0_init 94 = .ok (.invokespecial 41, 3) := by decide +kernel
theorem dX0_init_97 : decode cX0_init 97 = .ok (.aastore, 1) := by decide +kernel
theorem dX0_init_98 : decode cX0_init 98 = .ok (.iinc 1 1, 3) := by decide +kernel
theorem dX0_init_101 : decode cX0_init 101 = .ok (.goto (-22), 3) := by decide +kernel
theorem dX0_init_104 : decode cX0_init 104 = .ok (.return_, 1) := by decide +kernel
theorem dX0_take_0 : decode cX0_take 0 = .ok (.aload_n 0, 1) := by decide +kernel
theorem dX0_take_1 : decode cX0_take 1 = .ok (.aload_n 1, 1) := by decide +kernel
theorem dX0_take_2 : decode cX0_take 2 = .ok (.getfield 27, 3) := by decide +kernel
theorem dX0_take_5 : decode cX0_take 5 = .ok (.putfield 27, 3) := by decide +kernel
theorem dX0_take_8 : decode cX0_take 8 = .ok (.aload_n 0, 1) := by decide +kernel
theorem dX0_take_9 : decode cX0_take 9 = .ok (.aload_n 1, 1) := by decide +kernel
theorem dX0_take_10 : decode cX0_take 10 = .ok (.getfield 31, 3) := by decide +kernel
theorem dX0_take_13 : decode cX0_take 13 = .ok (.putfield 31, 3) := by decide +kernel
theorem dX0_take_16 : decode cX0_take 16 = .ok (.aload_n 0, 1) := by decide +kernel
theorem dX0_take_17 : decode cX0_take 17 = .ok (.aload_n 1, 1) := by decide +kernel
theorem dX0_take_18 : decode cX0_take 18 = .ok (.getfield 34, 3) := by decide +kernel
theorem dX0_take_21 : decode cX0_take 21 = .ok (.putfield 34, 3) := by decide +kernel
theorem dX0_take_24 : decode cX0_take 24 = .ok (.aload_n 0, 1) := by decide +kernel
theorem dX0_take_25 : decode cX0_take 25 = .ok (.aload_n 1, 1) := by decide +kernel
theorem dX0_take_26 : decode cX0_take 26 = .ok (.getfield 37, 3) := by decide +kernel
theorem dX0_take_29 : decode cX0_take 29 = .ok (.putfield 37, 3) := by decide +kernel
theorem dX0_take_32 : decode cX0_take 32 = .ok (.iconst 0, 1) := by decide +kernel
theorem dX0_take_33 : decode cX0_take 33 = .ok (.istore_n 2, 1) := by decide +kernel
theorem dX0_take_34 : decode cX0_take 34 = .ok (.iload_n 2, 1) := by decide +kernel
theorem dX0_take_35 : decode cX0_take 35 = .ok (.aload_n 0, 1) := by decide +kernel
theorem dX0_take_36 : decode cX0_take 36 = .ok (.getfield 27, 3) := by decide +kernel
theorem dX0_take_39 : decode cX0_take 39 = .ok (.if_icmp .ge 24, 3) := by decide +kernel
theorem dX0_take_42 : decode cX0_take 42 = .ok (.aload_n 0, 1) := by decide +kernel
theorem dX0_take_43 : decode cX0_take 43 = .ok (.getfield 11, 3) := by decide +kernel
theorem dX0_take_46 : decode cX0_take 46 = .ok (.iload_n 2, 1) := by decide +kernel
theorem dX0_take_47 : decode cX0_take 47 = .ok (.aaload, 1) := by decide +kernel
theorem dX0_take_48 : decode cX0_take 48 = .ok (.aload_n 1, 1) := by decide +kernel
theorem dX0_take_49 : decode cX0_take 49 = .ok (.getfield 11, 3) := by decide +kernel
theorem dX0_take_52 : decode cX0_take 52 = .ok (.iload_n 2, 1) := by decide +kernel
theorem dX0_take_53 : decode cX0_take 53 = .ok (.aaload, 1) := by decide +kernel
theorem dX0_take_54 : decode cX0_take 54 = .ok (.invokevirtual 42, 3) := by decide +kernel
theorem dX0_take_57 : decode cX0_take 57 = .ok (.iinc 2 1, 3) := by decide +kernel
theorem dX0_take_60 : decode cX0_take 60 = .ok (.goto (-26), 3) := by decide +kernel
theorem dX0_take_63 : decode cX0_take 63 = .ok (.iconst 0, 1) := by decide +kernel
theorem dX0_take_64 : decode cX0_take 64 = .ok (.istore_n 2, 1) := by decide +kernel
theorem dX0_take_65 : decode cX0_take 65 = .ok (.iload_n 2, 1) := by decide +kernel
theorem dX0_take_66 : decode cX0_take 66 = .ok (.aload_n 0, 1) := by decide +kernel
theorem dX0_take_67 : decode cX0_take 67 = .ok (.getfield 31, 3) := by decide +kernel
theorem dX0_take_70 : decode cX0_take 70 = .ok (.if_icmp .ge 24, 3) := by decide +kernel
theorem dX0_take_73 : decode cX0_take 73 = .ok (.aload_n 0, 1) := by decide +kernel
theorem dX0_take_74 : decode cX0_take 74 = .ok (.getfield 19, 3) := by decide +kernel
theorem dX0_take_77 : decode cX0_take 77 = .ok (.iload_n 2, 1) := by decide +kernel
theorem dX0_take_78 : decode cX0_take 78 = .ok (.aaload, 1) := by decide +kernel
theorem dX0_take_79 : decode cX0_take 79 = .ok (.aload_n 1, 1) := by decide +kernel
theorem dX0_take_80 : decode cX0_take 80 = .ok (.getfield 19, 3) := by decide +kernel
theorem dX0_take_83 : decode cX0_take 83 = .ok (.iload_n 2, 1) := by decide +kernel
theorem dX0_take_84 : decode cX0_take 84 = .ok (.aaload, 1) := by decide +kernel
theorem dX0_take_85 : decode cX0_take 85 = .ok (.invokevirtual 46, 3) := by decide +kernel
theorem dX0_take_88 : decode cX0_take 88 = .ok (.iinc 2 1, 3) := by decide +kernel
theorem dX0_take_91 : decode cX0_take 91 = .ok (.goto (-26), 3) := by decide +kernel
theorem dX0_take_94 : decode cX0_take 94 = .ok (.return_, 1) := by decide +kernel
theorem dX0_hasPerson_0 : decode cX0_hasPerson 0 = .ok (.iload_n 1, 1) := by decide +kernel
theorem dX0_hasPerson_1 : decode cX0_hasPerson 1 = .ok (.iconst 0, 1) := by decide +kernel
theorem dX0_hasPerson_2 : decode cX0_hasPerson 2 = .ok (.aload_n 0, 1) := by decide +kernel
theorem dX0_hasPerson_3 : decode cX0_hasPerson 3 = .ok (.getfield 27, 3) := by decide +kernel
theorem dX0_hasPerson_6 : decode cX0_hasPerson 6 = .ok (.iconst 1, 1) := by decide +kernel
theorem dX0_hasPerson_7 : decode cX0_hasPerson 7 = .ok (.isub, 1) := by decide +kernel
theorem dX0_hasPerson_8 : decode cX0_hasPerson 8 = .ok (.invokestatic 49, 3) := by decide +kernel
theorem dX0_hasPerson_11 : decode cX0_hasPerson 11 = .ok (.ireturn, 1) := by decide +kernel
theorem dX0_hasGarment_0 : decode cX0_hasGarment 0 = .ok (.iload_n 1, 1) := by decide +kernel
theorem dX0_hasGarment_1 : decode cX0_hasGarment 1 = .ok (.iconst 0, 1) := by decide +kernel
theorem dX0_hasGarment_2 : decode cX0_hasGarment 2 = .ok (.aload_n 0, 1) := by decide +kernel
theorem dX0_hasGarment_3 : decode cX0_hasGarment 3 = .ok (.getfield 31, 3) := by decide +kernel
theorem dX0_hasGarment_6 : decode cX0_hasGarment 6 = .ok (.iconst 1, 1) := by decide +kernel
theorem dX0_hasGarment_7 : decode cX0_hasGarment 7 = .ok (.isub, 1) := by decide +kernel
theorem dX0_hasGarment_8 : decode cX0_hasGarment 8 = .ok (.invokestatic 49, 3) := by decide +kernel
theorem dX0_hasGarment_11 : decode cX0_hasGarment 11 = .ok (.ireturn, 1) := by decide +kernel
theorem dX0_isFullOfPeople_0 : decode cX0_isFullOfPeople 0 = .ok (.aload_n 0, 1) := by decide +kernel
theorem dX0_isFullOfPeople_1 : decode cX0_isFullOfPeople 1 = .ok (.getfield 27, 3) := by decide +kernel
theorem dX0_isFullOfPeople_4 : decode cX0_isFullOfPeople 4 = .ok (.bipush 6, 2) := by decide +kernel
theorem dX0_isFullOfPeople_6 : decode cX0_isFullOfPeople 6 = .ok (.if_icmp .lt 7, 3) := by decide +kernel
theorem dX0_isFullOfPeople_9 : decode cX0_isFullOfPeople 9 = .ok (.iconst 1, 1) := by decide +kernel
theorem dX0_isFullOfPeople_10 : decode cX0_isFullOfPeople 10 = .ok (.goto 4, 3) := by decide +kernel
theorem dX0_isFullOfPeople_13 : decode cX0_isFullOfPeople 13 = .ok (.iconst 0, 1) := by decide +kernel
theorem dX0_isFullOfPeople_14 : decode cX0_isFullOfPeople 14 = .ok (.ireturn, 1) := by decide +kernel
theorem dX0_isFullOfGarments_0 : decode cX0_isFullOfGarments 0 = .ok (.aload_n 0, 1) := by decide +kernel
theorem dX0_isFullOfGarments_1 : decode cX0_isFullOfGarments 1 = .ok (.getfield 31, 3) := by decide +kernel
theorem dX0_isFullOfGarments_4 : decode cX0_isFullOfGarments 4 = .ok (.bipush 8, 2) := by decide +kernel
theorem dX0_isFullOfGarments_6 : decode cX0_isFullOfGarments 6 = .ok (.if_icmp .lt 7, 3) := by decide +kernel
theorem dX0_isFullOfGarments_9 : decode cX0_isFullOfGarments 9 = .ok (.iconst 1, 1) := by decide +kernel
theorem dX0_isFullOfGarments_10 : decode cX0_isFullOfGarments 10 = .ok (.goto 4, 3) := by decide +kernel
theorem dX0_isFullOfGarments_13 : decode cX0_isFullOfGarments 13 = .ok (.iconst 0, 1) := by decide +kernel
theorem dX0_isFullOfGarments_14 : decode cX0_isFullOfGarments 14 = .ok (.ireturn, 1) := by decide +kernel
theorem dX0_addPerson_0 : decode cX0_addPerson 0 = .ok (.aload_n 0, 1) := by decide +kernel
theorem dX0_addPerson_1 : decode cX0_addPerson 1 = .ok (.getfield 11, 3) := by decide +kernel
theorem dX0_addPerson_4 : decode cX0_addPerson 4 = .ok (.aload_n 0, 1) := by decide +kernel
theorem dX0_addPerson_5 : decode cX0_addPerson 5 = .ok (.getfield 27, 3) := by decide +kernel
theorem dX0_addPerson_8 : decode cX0_addPerson 8 = .ok (.aaload, 1) := by decide +kernel
theorem dX0_addPerson_9 : decode cX0_addPerson 9 = .ok (.iload_n 1, 1) := by decide +kernel
theorem dX0_addPerson_10 : decode cX0_addPerson 10 = .ok (.invokevirtual 53, 3) := by decide +kernel
theorem dX0_addPerson_13 : decode cX0_addPerson 13 = .ok (.aload_n 0, 1) := by decide +kernel
theorem dX0_addPerson_14 : decode cX0_addPerson 14 = .ok (.dup, 1) := by decide +kernel
theorem dX0_addPerson_15 : decode cX0_addPerson 15 = .ok (.getfield 27, 3) := by decide +kernel
theorem dX0_addPerson_18 : decode cX0_addPerson 18 = .ok (.dup_x1, 1) := by decide +kernel
theorem dX0_addPerson_19 : decode cX0_addPerson 19 = .ok (.iconst 1, 1) := by decide +kernel
theorem dX0_addPerson_20 : decode cX0_addPerson 20 = .ok (.iadd, 1) := by decide +kernel
theorem dX0_addPerson_21 : decode cX0_addPerson 21 = .ok (.putfield 27, 3) := by decide +kernel
theorem dX0_addPerson_24 : decode cX0_addPerson 24 = .ok (.ireturn, 1) := by decide +kernel
theorem dX0_addGarment_0 : decode cX0_addGarment 0 = .ok (.aload_n 0, 1) := by decide +kernel
theorem dX0_addGarment_1 : decode cX0_addGarment 1 = .ok (.getfield 19, 3) := by decide +kernel
theorem dX0_addGarment_4 : decode cX0_addGarment 4 = .ok (.aload_n 0, 1) := by decide +kernel
theorem dX0_addGarment_5 : decode cX0_addGarment 5 = .ok (.getfield 31, 3) := by decide +kernel
theorem dX0_addGarment_8 : decode cX0_addGarment 8 = .ok (.aaload, 1) := by decide +kernel
theorem dX0_addGarment_9 : decode cX0_addGarment 9 = .ok (.iload_n 1, 1) := by decide +kernel
theorem dX0_addGarment_10 : decode cX0_addGarment 10 = .ok (.iload_n 2, 1) := by decide +kernel
theorem dX0_addGarment_11 : decode cX0_addGarment 11 = .ok (.invokevirtual 57, 3) := by decide +kernel
theorem dX0_addGarment_14 : decode cX0_addGarment 14 = .ok (.aload_n 0, 1) := by decide +kernel
theorem dX0_addGarment_15 : decode cX0_addGarment 15 = .ok (.dup, 1) := by decide +kernel
theorem dX0_addGarment_16 : decode cX0_addGarment 16 = .ok (.getfield 31, 3) := by decide +kernel
theorem dX0_addGarment_19 : decode cX0_addGarment 19 = .ok (.dup_x1, 1) := by decide +kernel
theorem dX0_addGarment_20 : decode cX0_addGarment 20 = .ok (.iconst 1, 1) := by decide +kernel
theorem dX0_addGarment_21 : decode cX0_addGarment 21 = .ok (.iadd, 1) := by decide +kernel
theorem dX0_addGarment_22 : decode cX0_addGarment 22 = .ok (.putfield 31, 3) := by decide +kernel
theorem dX0_addGarment_25 : decode cX0_addGarment 25 = .ok (.ireturn, 1) := by decide +kernel
theorem dX0_wornBy_0 : decode cX0_wornBy 0 = .ok (.iconst 0, 1) := by decide +kernel
theorem dX0_wornBy_1 : decode cX0_wornBy 1 = .ok (.istore_n 2, 1) := by decide +kernel
theorem dX0_wornBy_2 : decode cX0_wornBy 2 = .ok (.iconst 0, 1) := by decide +kernel
theorem dX0_wornBy_3 : decode cX0_wornBy 3 = .ok (.istore_n 3, 1) := by decide +kernel
theorem dX0_wornBy_4 : decode cX0_wornBy 4 = .ok (.iload_n 3, 1) := by decide +kernel
theorem dX0_wornBy_5 : decode cX0_wornBy 5 = .ok (.aload_n 0, 1) := by decide +kernel
theorem dX0_wornBy_6 : decode cX0_wornBy 6 = .ok (.getfield 31, 3) := by decide +kernel
theorem dX0_wornBy_9 : decode cX0_wornBy 9 = .ok (.if_icmp .ge 28, 3) := by decide +kernel
theorem dX0_wornBy_12 : decode cX0_wornBy 12 = .ok (.aload_n 0, 1) := by decide +kernel
theorem dX0_wornBy_13 : decode cX0_wornBy 13 = .ok (.getfield 19, 3) := by decide +kernel
theorem dX0_wornBy_16 : decode cX0_wornBy 16 = .ok (.iload_n 3, 1) := by decide +kernel
theorem dX0_wornBy_17 : decode cX0_wornBy 17 = .ok (.aaload, 1) := by decide +kernel
theorem dX0_wornBy_18 : decode cX0_wornBy 18 = .ok (.getfield 60, 3) := by decide +kernel
theorem dX0_wornBy_21 : decode cX0_wornBy 21 = .ok (.iload_n 1, 1) := by decide +kernel
theorem dX0_wornBy_22 : decode cX0_wornBy 22 = .ok (.if_icmp .ne 9, 3) := by decide +kernel
theorem dX0_wornBy_25 : decode cX0_wornBy 25 = .ok (.iload_n 2, 1) := by decide +kernel
theorem dX0_wornBy_26 : decode cX0_wornBy 26 = .ok (.iconst 1, 1) := by decide +kernel
theorem dX0_wornBy_27 : decode cX0_wornBy 27 = .ok (.iload_n 3, 1) := by decide +kernel
theorem dX0_wornBy_28 : decode cX0_wornBy 28 = .ok (.ishl, 1) := by decide +kernel
theorem dX0_wornBy_29 : decode cX0_wornBy 29 = .ok (.ior, 1) := by decide +kernel
theorem dX0_wornBy_30 : decode cX0_wornBy 30 = .ok (.istore_n 2, 1) := by decide +kernel
theorem dX0_wornBy_31 : decode cX0_wornBy 31 = .ok (.iinc 3 1, 3) := by decide +kernel
theorem dX0_wornBy_34 : decode cX0_wornBy 34 = .ok (.goto (-30), 3) := by decide +kernel
theorem dX0_wornBy_37 : decode cX0_wornBy 37 = .ok (.iload_n 2, 1) := by decide +kernel
theorem dX0_wornBy_38 : decode cX0_wornBy 38 = .ok (.ireturn, 1) := by decide +kernel
theorem dX0_countWorn_0 : decode cX0_countWorn 0 = .ok (.aload_n 0, 1) := by decide +kernel
theorem dX0_countWorn_1 : decode cX0_countWorn 1 = .ok (.getfield 31, 3) := by decide +kernel
theorem dX0_countWorn_4 : decode cX0_countWorn 4 = .ok (.aload_n 0, 1) := by decide +kernel
theorem dX0_countWorn_5 : decode cX0_countWorn 5 = .ok (.iconst (-1), 1) := by decide +kernel
theorem dX0_countWorn_6 : decode cX0_countWorn 6 = .ok (.invokevirtual 63, 3) := by decide +kernel
theorem dX0_countWorn_9 : decode cX0_countWorn 9 = .ok (.invokestatic 67, 3) := by decide +kernel
theorem dX0_countWorn_12 : decode cX0_countWorn 12 = .ok (.isub, 1) := by decide +kernel
theorem dX0_countWorn_13 : decode cX0_countWorn 13 = .ok (.ireturn, 1) := by decide +kernel
theorem dX0_countHabits_0 : decode cX0_countHabits 0 = .ok (.iconst 0, 1) := by decide +kernel
theorem dX0_countHabits_1 : decode cX0_countHabits 1 = .ok (.istore_n 1, 1) := by decide +kernel
theorem dX0_countHabits_2 : decode cX0_countHabits 2 = .ok (.iconst 0, 1) := by decide +kernel
theorem dX0_countHabits_3 : decode cX0_countHabits 3 = .ok (.istore_n 2, 1) := by decide +kernel
theorem dX0_countHabits_4 : decode cX0_countHabits 4 = .ok (.iload_n 2, 1) := by decide +kernel
theorem dX0_countHabits_5 : decode cX0_countHabits 5 = .ok (.aload_n 0, 1) := by decide +kernel
theorem dX0_countHabits_6 : decode cX0_countHabits 6 = .ok (.getfield 31, 3) := by decide +kernel
theorem dX0_countHabits_9 : decode cX0_countHabits 9 = .ok (.if_icmp .ge 21, 3) := by decide +kernel
theorem dX0_countHabits_12 : decode cX0_countHabits 12 = .ok (.iload_n 1, 1) := by decide +kernel
theorem dX0_countHabits_13 : decode cX0_countHabits 13 = .ok (.aload_n 0, 1) := by decide +kernel
theorem dX0_countHabits_14 : decode cX0_countHabits 14 = .ok (.getfield 19, 3) := by decide +kernel
theorem dX0_countHabits_17 : decode cX0_countHabits 17 = .ok (.iload_n 2, 1) := by decide +kernel
theorem dX0_countHabits_18 : decode cX0_countHabits 18 = .ok (.aaload, 1) := by decide +kernel
theorem dX0_countHabits_19 : decode cX0_countHabits 19 = .ok (.invokevirtual 72, 3) := by decide +kernel
theorem dX0_countHabits_22 : decode cX0_countHabits 22 = .ok (.iadd, 1) := by decide +kernel
theorem dX0_countHabits_23 : decode cX0_countHabits 23 = .ok (.istore_n 1, 1) := by decide +kernel
theorem dX0_countHabits_24 : decode cX0_countHabits 24 = .ok (.iinc 2 1, 3) := by decide +kernel
theorem dX0_countHabits_27 : decode cX0_countHabits 27 = .ok (.goto (-23), 3) := by decide +kernel
theorem dX0_countHabits_30 : decode cX0_countHabits 30 = .ok (.iload_n 1, 1) := by decide +kernel
theorem dX0_countHabits_31 : decode cX0_countHabits 31 = .ok (.ireturn, 1) := by decide +kernel
theorem dX0_pullOf_0 : decode cX0_pullOf 0 = .ok (.aload_n 0, 1) := by decide +kernel
theorem dX0_pullOf_1 : decode cX0_pullOf 1 = .ok (.getfield 19, 3) := by decide +kernel
theorem dX0_pullOf_4 : decode cX0_pullOf 4 = .ok (.iload_n 1, 1) := by decide +kernel
theorem dX0_pullOf_5 : decode cX0_pullOf 5 = .ok (.aaload, 1) := by decide +kernel
theorem dX0_pullOf_6 : decode cX0_pullOf 6 = .ok (.astore_n 3, 1) := by decide +kernel
theorem dX0_pullOf_7 : decode cX0_pullOf 7 = .ok (.aload_n 3, 1) := by decide +kernel
theorem dX0_pullOf_8 : decode cX0_pullOf 8 = .ok (.getfield 76, 3) := by decide +kernel
theorem dX0_pullOf_11 : decode cX0_pullOf 11 = .ok (.iload_n 2, 1) := by decide +kernel
theorem dX0_pullOf_12 : decode cX0_pullOf 12 = .ok (.iaload, 1) := by decide +kernel
theorem dX0_pullOf_13 : decode cX0_pullOf 13 = .ok (.istore 4, 2) := by decide +kernel
theorem dX0_pullOf_15 : decode cX0_pullOf 15 = .ok (.aload_n 3, 1) := by decide +kernel
theorem dX0_pullOf_16 : decode cX0_pullOf 16 = .ok (.getfield 79, 3) := by decide +kernel
theorem dX0_pullOf_19 : decode cX0_pullOf 19 = .ok (.iload_n 2, 1) := by decide +kernel
theorem dX0_pullOf_20 : decode cX0_pullOf 20 = .ok (.iaload, 1) := by decide +kernel
theorem dX0_pullOf_21 : decode cX0_pullOf 21 = .ok (.istore 5, 2) := by decide +kernel
theorem dX0_pullOf_23 : decode cX0_pullOf 23 = .ok (.iload 5, 2) := by decide +kernel
theorem dX0_pullOf_25 : decode cX0_pullOf 25 = .ok (.aload_n 3, 1) := by decide +kernel
theorem dX0_pullOf_26 : decode cX0_pullOf 26 = .ok (.getfield 82, 3) := by decide +kernel
theorem dX0_pullOf_29 : decode cX0_pullOf 29 = .ok (.iadd, 1) := by decide +kernel
theorem dX0_pullOf_30 : decode cX0_pullOf 30 = .ok (.istore 6, 2) := by decide +kernel
theorem dX0_pullOf_32 : decode cX0_pullOf 32 = .ok (.iload 4, 2) := by decide +kernel
theorem dX0_pullOf_34 : decode cX0_pullOf 34 = .ok (.ifCond .ne 5, 3) := by decide +kernel
theorem dX0_pullOf_37 : decode cX0_pullOf 37 = .ok (.iconst 0, 1) := by decide +kernel
theorem dX0_pullOf_38 : decode cX0_pullOf 38 = .ok (.ireturn, 1) := by decide +kernel
theorem dX0_pullOf_39 : decode cX0_pullOf 39 = .ok (.aload_n 3, 1) := by decide +kernel
theorem dX0_pullOf_40 : decode cX0_pullOf 40 = .ok (.getfield 85, 3) := by decide +kernel
theorem dX0_pullOf_43 : decode cX0_pullOf 43 = .ok (.tableswitch 125 1 6 #[37, 125, 40, 100, 95, 105], 37) := by decide +kernel
theorem dX0_pullOf_80 : decode cX0_pullOf 80 = .ok (.iload 6, 2) := by decide +kernel
theorem dX0_pullOf_82 : decode cX0_pullOf 82 = .ok (.ireturn, 1) := by decide +kernel
theorem dX0_pullOf_83 : decode cX0_pullOf 83 = .ok (.iconst 0, 1) := by decide +kernel
theorem dX0_pullOf_84 : decode cX0_pullOf 84 = .ok (.istore 7, 2) := by decide +kernel
theorem dX0_pullOf_86 : decode cX0_pullOf 86 = .ok (.iload 7, 2) := by decide +kernel
theorem dX0_pullOf_88 : decode cX0_pullOf 88 = .ok (.aload_n 0, 1) := by decide +kernel
theorem dX0_pullOf_89 : decode cX0_pullOf 89 = .ok (.getfield 31, 3) := by decide +kernel
theorem dX0_pullOf_92 : decode cX0_pullOf 92 = .ok (.if_icmp .ge 43, 3) := by decide +kernel
theorem dX0_pullOf_95 : decode cX0_pullOf 95 = .ok (.aload_n 0, 1) := by decide +kernel
theorem dX0_pullOf_96 : decode cX0_pullOf 96 = .ok (.getfield 19, 3) := by decide +kernel
theorem dX0_pullOf_99 : decode cX0_pullOf 99 = .ok (.iload 7, 2) := by decide +kernel
theorem dX0_pullOf_101 : decode cX0_pullOf 101 = .ok (.aaload, 1) := by decide +kernel
theorem dX0_pullOf_102 : decode cX0_pullOf 102 = .ok (.getfield 85, 3) := by decide +kernel
theorem dX0_pullOf_105 : decode cX0_pullOf 105 = .ok (.iconst 3, 1) := by decide +kernel
theorem dX0_pullOf_106 : decode cX0_pullOf 106 = .ok (.if_icmp .ne 23, 3) := by decide +kernel
theorem dX0_pullOf_109 : decode cX0_pullOf 109 = .ok (.aload_n 0, 1) := by decide +kernel
theorem dX0_pullOf_110 : decode cX0_pullOf 110 = .ok (.getfield 19, 3) := by decide +kernel
theorem dX0_pullOf_113 : decode cX0_pullOf 113 = .ok (.iload 7, 2) := by decide +kernel
theorem dX0_pullOf_115 : decode cX0_pullOf 115 = .ok (.aaload, 1) := by decide +kernel
theorem dX0_pullOf_116 : decode cX0_pullOf 116 = .ok (.getfield 76, 3) := by decide +kernel
theorem dX0_pullOf_119 : decode cX0_pullOf 119 = .ok (.iload_n 2, 1) := by decide +kernel
theorem dX0_pullOf_120 : decode cX0_pullOf 120 = .ok (.iaload, 1) := by decide +kernel
theorem dX0_pullOf_121 : decode cX0_pullOf 121 = .ok (.iload 4, 2) := by decide +kernel
theorem dX0_pullOf_123 : decode cX0_pullOf 123 = .ok (.if_icmp .ne 6, 3) := by decide +kernel
theorem dX0_pullOf_126 : decode cX0_pullOf 126 = .ok (.iinc 6 1, 3) := by decide +kernel
theorem dX0_pullOf_129 : decode cX0_pullOf 129 = .ok (.iinc 7 1, 3) := by decide +kernel
theorem dX0_pullOf_132 : decode cX0_pullOf 132 = .ok (.goto (-46), 3) := by decide +kernel
theorem dX0_pullOf_135 : decode cX0_pullOf 135 = .ok (.iload 6, 2) := by decide +kernel
theorem dX0_pullOf_137 : decode cX0_pullOf 137 = .ok (.ireturn, 1) := by decide +kernel
theorem dX0_pullOf_138 : decode cX0_pullOf 138 = .ok (.iload 5, 2) := by decide +kernel
theorem dX0_pullOf_140 : decode cX0_pullOf 140 = .ok (.iconst 2, 1) := by decide +kernel
theorem dX0_pullOf_141 : decode cX0_pullOf 141 = .ok (.idiv, 1) := by decide +kernel
theorem dX0_pullOf_142 : decode cX0_pullOf 142 = .ok (.ireturn, 1) := by decide +kernel
theorem dX0_pullOf_143 : decode cX0_pullOf 143 = .ok (.iconst 2, 1) := by decide +kernel
theorem dX0_pullOf_144 : decode cX0_pullOf 144 = .ok (.iload 5, 2) := by decide +kernel
theorem dX0_pullOf_146 : decode cX0_pullOf 146 = .ok (.imul, 1) := by decide +kernel
theorem dX0_pullOf_147 : decode cX0_pullOf 147 = .ok (.ireturn, 1) := by decide +kernel
theorem dX0_pullOf_148 : decode cX0_pullOf 148 = .ok (.iconst 2, 1) := by decide +kernel
theorem dX0_pullOf_149 : decode cX0_pullOf 149 = .ok (.iload 5, 2) := by decide +kernel
theorem dX0_pullOf_151 : decode cX0_pullOf 151 = .ok (.imul, 1) := by decide +kernel
theorem dX0_pullOf_152 : decode cX0_pullOf 152 = .ok (.iload_n 2, 1) := by decide +kernel
theorem dX0_pullOf_153 : decode cX0_pullOf 153 = .ok (.aload_n 3, 1) := by decide +kernel
theorem dX0_pullOf_154 : decode cX0_pullOf 154 = .ok (.getfield 82, 3) := by decide +kernel
theorem dX0_pullOf_157 : decode cX0_pullOf 157 = .ok (.if_icmp .ne 8, 3) := by decide +kernel
theorem dX0_pullOf_160 : decode cX0_pullOf 160 = .ok (.bipush 9, 2) := by decide +kernel
theorem dX0_pullOf_162 : decode cX0_pullOf 162 = .ok (.goto 4, 3) := by decide +kernel
theorem dX0_pullOf_165 : decode cX0_pullOf 165 = .ok (.iconst 0, 1) := by decide +kernel
theorem dX0_pullOf_166 : decode cX0_pullOf 166 = .ok (.iadd, 1) := by decide +kernel
theorem dX0_pullOf_167 : decode cX0_pullOf 167 = .ok (.ireturn, 1) := by decide +kernel
theorem dX0_pullOf_168 : decode cX0_pullOf 168 = .ok (.iload 5, 2) := by decide +kernel
theorem dX0_pullOf_170 : decode cX0_pullOf 170 = .ok (.ireturn, 1) := by decide +kernel
theorem dX0_deedIn_0 : decode cX0_deedIn 0 = .ok (.aload_n 0, 1) := by decide +kernel
theorem dX0_deedIn_1 : decode cX0_deedIn 1 = .ok (.getfield 11, 3) := by decide +kernel
theorem dX0_deedIn_4 : decode cX0_deedIn 4 = .ok (.iload_n 1, 1) := by decide +kernel
theorem dX0_deedIn_5 : decode cX0_deedIn 5 = .ok (.aaload, 1) := by decide +kernel
theorem dX0_deedIn_6 : decode cX0_deedIn 6 = .ok (.getfield 88, 3) := by decide +kernel
theorem dX0_deedIn_9 : decode cX0_deedIn 9 = .ok (.iload_n 2, 1) := by decide +kernel
theorem dX0_deedIn_10 : decode cX0_deedIn 10 = .ok (.iaload, 1) := by decide +kernel
theorem dX0_deedIn_11 : decode cX0_deedIn 11 = .ok (.istore 5, 2) := by decide +kernel
theorem dX0_deedIn_13 : decode cX0_deedIn 13 = .ok (.iload 4, 2) := by decide +kernel
theorem dX0_deedIn_15 : decode cX0_deedIn 15 = .ok (.istore 6, 2) := by decide +kernel
theorem dX0_deedIn_17 : decode cX0_deedIn 17 = .ok (.iconst 0, 1) := by decide +kernel
theorem dX0_deedIn_18 : decode cX0_deedIn 18 = .ok (.istore 7, 2) := by decide +kernel
theorem dX0_deedIn_20 : decode cX0_deedIn 20 = .ok (.iload 7, 2) := by decide +kernel
theorem dX0_deedIn_22 : decode cX0_deedIn 22 = .ok (.aload_n 0, 1) := by decide +kernel
theorem dX0_deedIn_23 : decode cX0_deedIn 23 = .ok (.getfield 31, 3) := by decide +kernel
theorem dX0_deedIn_26 : decode cX0_deedIn 26 = .ok (.if_icmp .ge 52, 3) := by decide +kernel
theorem dX0_deedIn_29 : decode cX0_deedIn 29 = .ok (.iload_n 3, 1) := by decide +kernel
theorem dX0_deedIn_30 : decode cX0_deedIn 30 = .ok (.iload 7, 2) := by decide +kernel
theorem dX0_deedIn_32 : decode cX0_deedIn 32 = .ok (.ishr, 1) := by decide +kernel
theorem dX0_deedIn_33 : decode cX0_deedIn 33 = .ok (.iconst 1, 1) := by decide +kernel
theorem dX0_deedIn_34 : decode cX0_deedIn 34 = .ok (.iand, 1) := by decide +kernel
theorem dX0_deedIn_35 : decode cX0_deedIn 35 = .ok (.ifCond .eq 37, 3) := by decide +kernel
theorem dX0_deedIn_38 : decode cX0_deedIn 38 = .ok (.aload_n 0, 1) := by decide +kernel
theorem dX0_deedIn_39 : decode cX0_deedIn 39 = .ok (.iload 7, 2) := by decide +kernel
theorem dX0_deedIn_41 : decode cX0_deedIn 41 = .ok (.iload_n 2, 1) := by decide +kernel
theorem dX0_deedIn_42 : decode cX0_deedIn 42 = .ok (.invokevirtual 91, 3) := by decide +kernel
theorem dX0_deedIn_45 : decode cX0_deedIn 45 = .ok (.istore 8, 2) := by decide +kernel
theorem dX0_deedIn_47 : decode cX0_deedIn 47 = .ok (.iload 8, 2) := by decide +kernel
theorem dX0_deedIn_49 : decode cX0_deedIn 49 = .ok (.iload 6, 2) := by decide +kernel
theorem dX0_deedIn_51 : decode cX0_deedIn 51 = .ok (.if_icmp .le 21, 3) := by decide +kernel
theorem dX0_deedIn_54 : decode cX0_deedIn 54 = .ok (.iload 8, 2) := by decide +kernel
theorem dX0_deedIn_56 : decode cX0_deedIn 56 = .ok (.istore 6, 2) := by decide +kernel
theorem dX0_deedIn_58 : decode cX0_deedIn 58 = .ok (.aload_n 0, 1) := by decide +kernel
theorem dX0_deedIn_59 : decode cX0_deedIn 59 = .ok (.getfield 19, 3) := by decide +kernel
theorem dX0_deedIn_62 : decode cX0_deedIn 62 = .ok (.iload 7, 2) := by decide +kernel
theorem dX0_deedIn_64 : decode cX0_deedIn 64 = .ok (.aaload, 1) := by decide +kernel
theorem dX0_deedIn_65 : decode cX0_deedIn 65 = .ok (.getfield 76, 3) := by decide +kernel
theorem dX0_deedIn_68 : decode cX0_deedIn 68 = .ok (.iload_n 2, 1) := by decide +kernel
theorem dX0_deedIn_69 : decode cX0_deedIn 69 = .ok (.iaload, 1) := by decide +kernel
theorem dX0_deedIn_70 : decode cX0_deedIn 70 = .ok (.istore 5, 2) := by decide +kernel
theorem dX0_deedIn_72 : decode cX0_deedIn 72 = .ok (.iinc 7 1, 3) := by decide +kernel
theorem dX0_deedIn_75 : decode cX0_deedIn 75 = .ok (.goto (-55), 3) := by decide +kernel
theorem dX0_deedIn_78 : decode cX0_deedIn 78 = .ok (.iload 5, 2) := by decide +kernel
theorem dX0_deedIn_80 : decode cX0_deedIn 80 = .ok (.ireturn, 1) := by decide +kernel
theorem dX0_deedOf_0 : decode cX0_deedOf 0 = .ok (.aload_n 0, 1) := by decide +kernel
theorem dX0_deedOf_1 : decode cX0_deedOf 1 = .ok (.iload_n 1, 1) := by decide +kernel
theorem dX0_deedOf_2 : decode cX0_deedOf 2 = .ok (.iload_n 2, 1) := by decide +kernel
theorem dX0_deedOf_3 : decode cX0_deedOf 3 = .ok (.aload_n 0, 1) := by decide +kernel
theorem dX0_deedOf_4 : decode cX0_deedOf 4 = .ok (.iload_n 1, 1) := by decide +kernel
theorem dX0_deedOf_5 : decode cX0_deedOf 5 = .ok (.invokevirtual 63, 3) := by decide +kernel
theorem dX0_deedOf_8 : decode cX0_deedOf 8 = .ok (.aload_n 0, 1) := by decide +kernel
theorem dX0_deedOf_9 : decode cX0_deedOf 9 = .ok (.getfield 11, 3) := by decide +kernel
theorem dX0_deedOf_12 : decode cX0_deedOf 12 = .ok (.iload_n 1, 1) := by decide +kernel
theorem dX0_deedOf_13 : decode cX0_deedOf 13 = .ok (.aaload, 1) := by decide +kernel
theorem dX0_deedOf_14 : decode cX0_deedOf 14 = .ok (.getfield 95, 3) := by decide +kernel
theorem dX0_deedOf_17 : decode cX0_deedOf 17 = .ok (.invokevirtual 98, 3) := by decide +kernel
theorem dX0_deedOf_20 : decode cX0_deedOf 20 = .ok (.ireturn, 1) := by decide +kernel
theorem dX0_wouldGo_0 : decode cX0_wouldGo 0 = .ok (.aload_n 0, 1) := by decide +kernel
theorem dX0_wouldGo_1 : decode cX0_wouldGo 1 = .ok (.getfield 19, 3) := by decide +kernel
theorem dX0_wouldGo_4 : decode cX0_wouldGo 4 = .ok (.iload_n 1, 1) := by decide +kernel
theorem dX0_wouldGo_5 : decode cX0_wouldGo 5 = .ok (.aaload, 1) := by decide +kernel
theorem dX0_wouldGo_6 : decode cX0_wouldGo 6 = .ok (.invokevirtual 102, 3) := by decide +kernel
theorem dX0_wouldGo_9 : decode cX0_wouldGo 9 = .ok (.ifCond .eq 18, 3) := by decide +kernel
theorem dX0_wouldGo_12 : decode cX0_wouldGo 12 = .ok (.aload_n 0, 1) := by decide +kernel
theorem dX0_wouldGo_13 : decode cX0_wouldGo 13 = .ok (.iload_n 1, 1) := by decide +kernel
theorem dX0_wouldGo_14 : decode cX0_wouldGo 14 = .ok (.iload_n 2, 1) := by decide +kernel
theorem dX0_wouldGo_15 : decode cX0_wouldGo 15 = .ok (.invokevirtual 91, 3) := by decide +kernel
theorem dX0_wouldGo_18 : decode cX0_wouldGo 18 = .ok (.bipush 10, 2) := by decide +kernel
theorem dX0_wouldGo_20 : decode cX0_wouldGo 20 = .ok (.if_icmp .lt 7, 3) := by decide +kernel
theorem dX0_wouldGo_23 : decode cX0_wouldGo 23 = .ok (.iconst 1, 1) := by decide +kernel
theorem dX0_wouldGo_24 : decode cX0_wouldGo 24 = .ok (.goto 4, 3) := by decide +kernel
theorem dX0_wouldGo_27 : decode cX0_wouldGo 27 = .ok (.iconst 0, 1) := by decide +kernel
theorem dX0_wouldGo_28 : decode cX0_wouldGo 28 = .ok (.ireturn, 1) := by decide +kernel
theorem dX0_isGoing_0 : decode cX0_isGoing 0 = .ok (.aload_n 0, 1) := by decide +kernel
theorem dX0_isGoing_1 : decode cX0_isGoing 1 = .ok (.getfield 19, 3) := by decide +kernel
theorem dX0_isGoing_4 : decode cX0_isGoing 4 = .ok (.iload_n 1, 1) := by decide +kernel
theorem dX0_isGoing_5 : decode cX0_isGoing 5 = .ok (.aaload, 1) := by decide +kernel
theorem dX0_isGoing_6 : decode cX0_isGoing 6 = .ok (.getfield 60, 3) := by decide +kernel
theorem dX0_isGoing_9 : decode cX0_isGoing 9 = .ok (.iconst (-1), 1) := by decide +kernel
theorem dX0_isGoing_10 : decode cX0_isGoing 10 = .ok (.if_icmp .ne 16, 3) := by decide +kernel
theorem dX0_isGoing_13 : decode cX0_isGoing 13 = .ok (.aload_n 0, 1) := by decide +kernel
theorem dX0_isGoing_14 : decode cX0_isGoing 14 = .ok (.iload_n 1, 1) := by decide +kernel
theorem dX0_isGoing_15 : decode cX0_isGoing 15 = .ok (.iload_n 2, 1) := by decide +kernel
theorem dX0_isGoing_16 : decode cX0_isGoing 16 = .ok (.invokevirtual 106, 3) := by decide +kernel
theorem dX0_isGoing_19 : decode cX0_isGoing 19 = .ok (.ifCond .eq 7, 3) := by decide +kernel
theorem dX0_isGoing_22 : decode cX0_isGoing 22 = .ok (.iconst 1, 1) := by decide +kernel
theorem dX0_isGoing_23 : decode cX0_isGoing 23 = .ok (.goto 4, 3) := by decide +kernel
theorem dX0_isGoing_26 : decode cX0_isGoing 26 = .ok (.iconst 0, 1) := by decide +kernel
theorem dX0_isGoing_27 : decode cX0_isGoing 27 = .ok (.ireturn, 1) := by decide +kernel
theorem dX0_hoursToGo_0 : decode cX0_hoursToGo 0 = .ok (.iconst 0, 1) := by decide +kernel
theorem dX0_hoursToGo_1 : decode cX0_hoursToGo 1 = .ok (.istore_n 2, 1) := by decide +kernel
theorem dX0_hoursToGo_2 : decode cX0_hoursToGo 2 = .ok (.iconst 0, 1) := by decide +kernel
theorem dX0_hoursToGo_3 : decode cX0_hoursToGo 3 = .ok (.istore_n 3, 1) := by decide +kernel
theorem dX0_hoursToGo_4 : decode cX0_hoursToGo 4 = .ok (.iload_n 3, 1) := by decide +kernel
theorem dX0_hoursToGo_5 : decode cX0_hoursToGo 5 = .ok (.bipush 12, 2) := by decide +kernel
theorem dX0_hoursToGo_7 : decode cX0_hoursToGo 7 = .ok (.if_icmp .ge 21, 3) := by decide +kernel
theorem dX0_hoursToGo_10 : decode cX0_hoursToGo 10 = .ok (.aload_n 0, 1) := by decide +kernel
theorem dX0_hoursToGo_11 : decode cX0_hoursToGo 11 = .ok (.iload_n 1, 1) := by decide +kernel
theorem dX0_hoursToGo_12 : decode cX0_hoursToGo 12 = .ok (.iload_n 3, 1) := by decide +kernel
theorem dX0_hoursToGo_13 : decode cX0_hoursToGo 13 = .ok (.invokevirtual 106, 3) := by decide +kernel
theorem dX0_hoursToGo_16 : decode cX0_hoursToGo 16 = .ok (.ifCond .eq 6, 3) := by decide +kernel
theorem dX0_hoursToGo_19 : decode cX0_hoursToGo 19 = .ok (.iinc 2 1, 3) := by decide +kernel
theorem dX0_hoursToGo_22 : decode cX0_hoursToGo 22 = .ok (.iinc 3 1, 3) := by decide +kernel
theorem dX0_hoursToGo_25 : decode cX0_hoursToGo 25 = .ok (.goto (-21), 3) := by decide +kernel
theorem dX0_hoursToGo_28 : decode cX0_hoursToGo 28 = .ok (.iload_n 2, 1) := by decide +kernel
theorem dX0_hoursToGo_29 : decode cX0_hoursToGo 29 = .ok (.ireturn, 1) := by decide +kernel
theorem dX0_passHour_0 : decode cX0_passHour 0 = .ok (.iconst 0, 1) := by decide +kernel
theorem dX0_passHour_1 : decode cX0_passHour 1 = .ok (.istore_n 2, 1) := by decide +kernel
theorem dX0_passHour_2 : decode cX0_passHour 2 = .ok (.iload_n 2, 1) := by decide +kernel
theorem dX0_passHour_3 : decode cX0_passHour 3 = .ok (.aload_n 0, 1) := by decide +kernel
theorem dX0_passHour_4 : decode cX0_passHour 4 = .ok (.getfield 27, 3) := by decide +kernel
theorem dX0_passHour_7 : decode cX0_passHour 7 = .ok (.if_icmp .ge 35, 3) := by decide +kernel
theorem dX0_passHour_10 : decode cX0_passHour 10 = .ok (.aload_n 0, 1) := by decide +kernel
theorem dX0_passHour_11 : decode cX0_passHour 11 = .ok (.getfield 23, 3) := by decide +kernel
theorem dX0_passHour_14 : decode cX0_passHour 14 = .ok (.iload_n 2, 1) := by decide +kernel
theorem dX0_passHour_15 : decode cX0_passHour 15 = .ok (.aload_n 0, 1) := by decide +kernel
theorem dX0_passHour_16 : decode cX0_passHour 16 = .ok (.iload_n 2, 1) := by decide +kernel
theorem dX0_passHour_17 : decode cX0_passHour 17 = .ok (.iload_n 1, 1) := by decide +kernel
theorem dX0_passHour_18 : decode cX0_passHour 18 = .ok (.aload_n 0, 1) := by decide +kernel
theorem dX0_passHour_19 : decode cX0_passHour 19 = .ok (.iload_n 2, 1) := by decide +kernel
theorem dX0_passHour_20 : decode cX0_passHour 20 = .ok (.invokevirtual 63, 3) := by decide +kernel
theorem dX0_passHour_23 : decode cX0_passHour 23 = .ok (.aload_n 0, 1) := by decide +kernel
theorem dX0_passHour_24 : decode cX0_passHour 24 = .ok (.getfield 11, 3) := by decide +kernel
theorem dX0_passHour_27 : decode cX0_passHour 27 = .ok (.iload_n 2, 1) := by decide +kernel
theorem dX0_passHour_28 : decode cX0_passHour 28 = .ok (.aaload, 1) := by decide +kernel
theorem dX0_passHour_29 : decode cX0_passHour 29 = .ok (.getfield 95, 3) := by decide +kernel
theorem dX0_passHour_32 : decode cX0_passHour 32 = .ok (.invokevirtual 98, 3) := by decide +kernel
theorem dX0_passHour_35 : decode cX0_passHour 35 = .ok (.iastore, 1) := by decide +kernel
theorem dX0_passHour_36 : decode cX0_passHour 36 = .ok (.iinc 2 1, 3) := by decide +kernel
theorem dX0_passHour_39 : decode cX0_passHour 39 = .ok (.goto (-37), 3) := by decide +kernel
theorem dX0_passHour_42 : decode cX0_passHour 42 = .ok (.iconst 0, 1) := by decide +kernel
theorem dX0_passHour_43 : decode cX0_passHour 43 = .ok (.istore_n 2, 1) := by decide +kernel
theorem dX0_passHour_44 : decode cX0_passHour 44 = .ok (.iconst 0, 1) := by decide +kernel
theorem dX0_passHour_45 : decode cX0_passHour 45 = .ok (.istore_n 3, 1) := by decide +kernel
theorem dX0_passHour_46 : decode cX0_passHour 46 = .ok (.iload_n 3, 1) := by decide +kernel
theorem dX0_passHour_47 : decode cX0_passHour 47 = .ok (.aload_n 0, 1) := by decide +kernel
theorem dX0_passHour_48 : decode cX0_passHour 48 = .ok (.getfield 31, 3) := by decide +kernel
theorem dX0_passHour_51 : decode cX0_passHour 51 = .ok (.if_icmp .ge 51, 3) := by decide +kernel
theorem dX0_passHour_54 : decode cX0_passHour 54 = .ok (.aload_n 0, 1) := by decide +kernel
theorem dX0_passHour_55 : decode cX0_passHour 55 = .ok (.getfield 19, 3) := by decide +kernel
theorem dX0_passHour_58 : decode cX0_passHour 58 = .ok (.iload_n 3, 1) := by decide +kernel
theorem dX0_passHour_59 : decode cX0_passHour 59 = .ok (.aaload, 1) := by decide +kernel
theorem dX0_passHour_60 : decode cX0_passHour 60 = .ok (.getfield 60, 3) := by decide +kernel
theorem dX0_passHour_63 : decode cX0_passHour 63 = .ok (.istore 4, 2) := by decide +kernel
theorem dX0_passHour_65 : decode cX0_passHour 65 = .ok (.aload_n 0, 1) := by decide +kernel
theorem dX0_passHour_66 : decode cX0_passHour 66 = .ok (.iload 4, 2) := by decide +kernel
theorem dX0_passHour_68 : decode cX0_passHour 68 = .ok (.invokevirtual 110, 3) := by decide +kernel
theorem dX0_passHour_71 : decode cX0_passHour 71 = .ok (.ifCond .eq 25, 3) := by decide +kernel
theorem dX0_passHour_74 : decode cX0_passHour 74 = .ok (.aload_n 0, 1) := by decide +kernel
theorem dX0_passHour_75 : decode cX0_passHour 75 = .ok (.getfield 19, 3) := by decide +kernel
theorem dX0_passHour_78 : decode cX0_passHour 78 = .ok (.iload_n 3, 1) := by decide +kernel
theorem dX0_passHour_79 : decode cX0_passHour 79 = .ok (.aaload, 1) := by decide +kernel
theorem dX0_passHour_80 : decode cX0_passHour 80 = .ok (.iload_n 1, 1) := by decide +kernel
theorem dX0_passHour_81 : decode cX0_passHour 81 = .ok (.aload_n 0, 1) := by decide +kernel
theorem dX0_passHour_82 : decode cX0_passHour 82 = .ok (.getfield 23, 3) := by decide +kernel
theorem dX0_passHour_85 : decode cX0_passHour 85 = .ok (.iload 4, 2) := by decide +kernel
theorem dX0_passHour_87 : decode cX0_passHour 87 = .ok (.iaload, 1) := by decide +kernel
theorem dX0_passHour_88 : decode cX0_passHour 88 = .ok (.invokevirtual 114, 3) := by decide +kernel
theorem dX0_passHour_91 : decode cX0_passHour 91 = .ok (.ifCond .eq 5, 3) := by decide +kernel
theorem dX0_passHour_94 : decode cX0_passHour 94 = .ok (.iconst 1, 1) := by decide +kernel
theorem dX0_passHour_95 : decode cX0_passHour 95 = .ok (.istore_n 2, 1) := by decide +kernel
theorem dX0_passHour_96 : decode cX0_passHour 96 = .ok (.iinc 3 1, 3) := by decide +kernel
theorem dX0_passHour_99 : decode cX0_passHour 99 = .ok (.goto (-53), 3) := by decide +kernel
theorem dX0_passHour_102 : decode cX0_passHour 102 = .ok (.iload_n 2, 1) := by decide +kernel
theorem dX0_passHour_103 : decode cX0_passHour 103 = .ok (.ireturn, 1) := by decide +kernel
theorem dX0_passDay_0 : decode cX0_passDay 0 = .ok (.iconst 0, 1) := by decide +kernel
theorem dX0_passDay_1 : decode cX0_passDay 1 = .ok (.istore_n 1, 1) := by decide +kernel
theorem dX0_passDay_2 : decode cX0_passDay 2 = .ok (.iconst 0, 1) := by decide +kernel
theorem dX0_passDay_3 : decode cX0_passDay 3 = .ok (.istore_n 2, 1) := by decide +kernel
theorem dX0_passDay_4 : decode cX0_passDay 4 = .ok (.iload_n 2, 1) := by decide +kernel
theorem dX0_passDay_5 : decode cX0_passDay 5 = .ok (.bipush 12, 2) := by decide +kernel
theorem dX0_passDay_7 : decode cX0_passDay 7 = .ok (.if_icmp .ge 43, 3) := by decide +kernel
theorem dX0_passDay_10 : decode cX0_passDay 10 = .ok (.aload_n 0, 1) := by decide +kernel
theorem dX0_passDay_11 : decode cX0_passDay 11 = .ok (.iload_n 2, 1) := by decide +kernel
theorem dX0_passDay_12 : decode cX0_passDay 12 = .ok (.invokevirtual 117, 3) := by decide +kernel
theorem dX0_passDay_15 : decode cX0_passDay 15 = .ok (.pop, 1) := by decide +kernel
theorem dX0_passDay_16 : decode cX0_passDay 16 = .ok (.iconst 0, 1) := by decide +kernel
theorem dX0_passDay_17 : decode cX0_passDay 17 = .ok (.istore_n 3, 1) := by decide +kernel
theorem dX0_passDay_18 : decode cX0_passDay 18 = .ok (.iload_n 3, 1) := by decide +kernel
theorem dX0_passDay_19 : decode cX0_passDay 19 = .ok (.aload_n 0, 1) := by decide +kernel
theorem dX0_passDay_20 : decode cX0_passDay 20 = .ok (.getfield 27, 3) := by decide +kernel
theorem dX0_passDay_23 : decode cX0_passDay 23 = .ok (.if_icmp .ge 21, 3) := by decide +kernel
theorem dX0_passDay_26 : decode cX0_passDay 26 = .ok (.aload_n 0, 1) := by decide +kernel
theorem dX0_passDay_27 : decode cX0_passDay 27 = .ok (.getfield 23, 3) := by decide +kernel
theorem dX0_passDay_30 : decode cX0_passDay 30 = .ok (.iload_n 3, 1) := by decide +kernel
theorem dX0_passDay_31 : decode cX0_passDay 31 = .ok (.iaload, 1) := by decide +kernel
theorem dX0_passDay_32 : decode cX0_passDay 32 = .ok (.ifCond .eq 6, 3) := by decide +kernel
theorem dX0_passDay_35 : decode cX0_passDay 35 = .ok (.iinc 1 1, 3) := by decide +kernel
theorem dX0_passDay_38 : decode cX0_passDay 38 = .ok (.iinc 3 1, 3) := by decide +kernel
theorem dX0_passDay_41 : decode cX0_passDay 41 = .ok (.goto (-23), 3) := by decide +kernel
theorem dX0_passDay_44 : decode cX0_passDay 44 = .ok (.iinc 2 1, 3) := by decide +kernel
theorem dX0_passDay_47 : decode cX0_passDay 47 = .ok (.goto (-43), 3) := by decide +kernel
theorem dX0_passDay_50 : decode cX0_passDay 50 = .ok (.aload_n 0, 1) := by decide +kernel
theorem dX0_passDay_51 : decode cX0_passDay 51 = .ok (.dup, 1) := by decide +kernel
theorem dX0_passDay_52 : decode cX0_passDay 52 = .ok (.getfield 37, 3) := by decide +kernel
theorem dX0_passDay_55 : decode cX0_passDay 55 = .ok (.iconst 1, 1) := by decide +kernel
theorem dX0_passDay_56 : decode cX0_passDay 56 = .ok (.iadd, 1) := by decide +kernel
theorem dX0_passDay_57 : decode cX0_passDay 57 = .ok (.putfield 37, 3) := by decide +kernel
theorem dX0_passDay_60 : decode cX0_passDay 60 = .ok (.iload_n 1, 1) := by decide +kernel
theorem dX0_passDay_61 : decode cX0_passDay 61 = .ok (.ireturn, 1) := by decide +kernel
theorem dX0_daysTillSettled_0 : decode cX0_daysTillSettled 0 = .ok (.iconst 0, 1) := by decide +kernel
theorem dX0_daysTillSettled_1 : decode cX0_daysTillSettled 1 = .ok (.istore_n 2, 1) := by decide +kernel
theorem dX0_daysTillSettled_2 : decode cX0_daysTillSettled 2 = .ok (.iload_n 2, 1) := by decide +kernel
theorem dX0_daysTillSettled_3 : decode cX0_daysTillSettled 3 = .ok (.bipush 60, 2) := by decide +kernel
theorem dX0_daysTillSettled_5 : decode cX0_daysTillSettled 5 = .ok (.if_icmp .gt 19, 3) := by decide +kernel
theorem dX0_daysTillSettled_8 : decode cX0_daysTillSettled 8 = .ok (.aload_n 0, 1) := by decide +kernel
theorem dX0_daysTillSettled_9 : decode cX0_daysTillSettled 9 = .ok (.iload_n 1, 1) := by decide +kernel
theorem dX0_daysTillSettled_10 : decode cX0_daysTillSettled 10 = .ok (.invokevirtual 117, 3) := by decide +kernel
theorem dX0_daysTillSettled_13 : decode cX0_daysTillSettled 13 = .ok (.ifCond .ne 5, 3) := by decide +kernel
theorem dX0_daysTillSettled_16 : decode cX0_daysTillSettled 16 = .ok (.iload_n 2, 1) := by decide +kernel
theorem dX0_daysTillSettled_17 : decode cX0_daysTillSettled 17 = .ok (.ireturn, 1) := by decide +kernel
theorem dX0_daysTillSettled_18 : decode cX0_daysTillSettled 18 = .ok (.iinc 2 1, 3) := by decide +kernel
theorem dX0_daysTillSettled_21 : decode cX0_daysTillSettled 21 = .ok (.goto (-19), 3) := by decide +kernel
theorem dX0_daysTillSettled_24 : decode cX0_daysTillSettled 24 = .ok (.iconst (-1), 1) := by decide +kernel
theorem dX0_daysTillSettled_25 : decode cX0_daysTillSettled 25 = .ok (.ireturn, 1) := by decide +kernel
theorem dX0_draw_0 : decode cX0_draw 0 = .ok (.aload_n 0, 1) := by decide +kernel
theorem dX0_draw_1 : decode cX0_draw 1 = .ok (.aload_n 0, 1) := by decide +kernel
theorem dX0_draw_2 : decode cX0_draw 2 = .ok (.getfield 34, 3) := by decide +kernel
theorem dX0_draw_5 : decode cX0_draw 5 = .ok (.ldc 120, 2) := by decide +kernel
theorem dX0_draw_7 : decode cX0_draw 7 = .ok (.imul, 1) := by decide +kernel
theorem dX0_draw_8 : decode cX0_draw 8 = .ok (.sipush 12345, 3) := by decide +kernel
theorem dX0_draw_11 : decode cX0_draw 11 = .ok (.iadd, 1) := by decide +kernel
theorem dX0_draw_12 : decode cX0_draw 12 = .ok (.putfield 34, 3) := by decide +kernel
theorem dX0_draw_15 : decode cX0_draw 15 = .ok (.iload_n 1, 1) := by decide +kernel
theorem dX0_draw_16 : decode cX0_draw 16 = .ok (.ifCond .le 15, 3) := by decide +kernel
theorem dX0_draw_19 : decode cX0_draw 19 = .ok (.aload_n 0, 1) := by decide +kernel
theorem dX0_draw_20 : decode cX0_draw 20 = .ok (.getfield 34, 3) := by decide +kernel
theorem dX0_draw_23 : decode cX0_draw 23 = .ok (.bipush 16, 2) := by decide +kernel
theorem dX0_draw_25 : decode cX0_draw 25 = .ok (.iushr, 1) := by decide +kernel
theorem dX0_draw_26 : decode cX0_draw 26 = .ok (.iload_n 1, 1) := by decide +kernel
theorem dX0_draw_27 : decode cX0_draw 27 = .ok (.irem, 1) := by decide +kernel
theorem dX0_draw_28 : decode cX0_draw 28 = .ok (.goto 4, 3) := by decide +kernel
theorem dX0_draw_31 : decode cX0_draw 31 = .ok (.iconst 0, 1) := by decide +kernel
theorem dX0_draw_32 : decode cX0_draw 32 = .ok (.ireturn, 1) := by decide +kernel
theorem dX0_passYear_0 : decode cX0_passYear 0 = .ok (.aload_n 0, 1) := by decide +kernel
theorem dX0_passYear_1 : decode cX0_passYear 1 = .ok (.aload_n 0, 1) := by decide +kernel
theorem dX0_passYear_2 : decode cX0_passYear 2 = .ok (.getfield 31, 3) := by decide +kernel
theorem dX0_passYear_5 : decode cX0_passYear 5 = .ok (.invokevirtual 121, 3) := by decide +kernel
theorem dX0_passYear_8 : decode cX0_passYear 8 = .ok (.istore_n 1, 1) := by decide +kernel
theorem dX0_passYear_9 : decode cX0_passYear 9 = .ok (.aload_n 0, 1) := by decide +kernel
theorem dX0_passYear_10 : decode cX0_passYear 10 = .ok (.iconst 4, 1) := by decide +kernel
theorem dX0_passYear_11 : decode cX0_passYear 11 = .ok (.invokevirtual 121, 3) := by decide +kernel
theorem dX0_passYear_14 : decode cX0_passYear 14 = .ok (.istore_n 2, 1) := by decide +kernel
theorem dX0_passYear_15 : decode cX0_passYear 15 = .ok (.aload_n 0, 1) := by decide +kernel
theorem dX0_passYear_16 : decode cX0_passYear 16 = .ok (.iload_n 1, 1) := by decide +kernel
theorem dX0_passYear_17 : decode cX0_passYear 17 = .ok (.invokevirtual 124, 3) := by decide +kernel
theorem dX0_passYear_20 : decode cX0_passYear 20 = .ok (.ifCond .eq 61, 3) := by decide +kernel
theorem dX0_passYear_23 : decode cX0_passYear 23 = .ok (.iload_n 2, 1) := by decide +kernel
theorem dX0_passYear_24 : decode cX0_passYear 24 = .ok (.ifCond .ne 15, 3) := by decide +kernel
theorem dX0_passYear_27 : decode cX0_passYear 27 = .ok (.aload_n 0, 1) := by decide +kernel
theorem dX0_passYear_28 : decode cX0_passYear 28 = .ok (.getfield 19, 3) := by decide +kernel
theorem dX0_passYear_31 : decode cX0_passYear 31 = .ok (.iload_n 1, 1) := by decide +kernel
theorem dX0_passYear_32 : decode cX0_passYear 32 = .ok (.aaload, 1) := by decide +kernel
theorem dX0_passYear_33 : decode cX0_passYear 33 = .ok (.invokevirtual 127, 3) := by decide +kernel
theorem dX0_passYear_36 : decode cX0_passYear 36 = .ok (.goto 45, 3) := by decide +kernel
theorem dX0_passYear_39 : decode cX0_passYear 39 = .ok (.iload_n 2, 1) := by decide +kernel
theorem dX0_passYear_40 : decode cX0_passYear 40 = .ok (.iconst 1, 1) := by decide +kernel
theorem dX0_passYear_41 : decode cX0_passYear 41 = .ok (.if_icmp .eq 10, 3) := by decide +kernel
theorem dX0_passYear_44 : decode cX0_passYear 44 = .ok (.aload_n 0, 1) := by decide +kernel
theorem dX0_passYear_45 : decode cX0_passYear 45 = .ok (.getfield 27, 3) := by decide +kernel
theorem dX0_passYear_48 : decode cX0_passYear 48 = .ok (.ifCond .ne 16, 3) := by decide +kernel
theorem dX0_passYear_51 : decode cX0_passYear 51 = .ok (.aload_n 0, 1) := by decide +kernel
theorem dX0_passYear_52 : decode cX0_passYear 52 = .ok (.getfield 19, 3) := by decide +kernel
theorem dX0_passYear_55 : decode cX0_passYear 55 = .ok (.iload_n 1, 1) := by decide +kernel
theorem dX0_passYear_56 : decode cX0_passYear 56 = .ok (.aaload, 1) := by decide +kernel
theorem dX0_passYear_57 : decode cX0_passYear 57 = .ok (.iconst (-1), 1) := by decide +kernel
theorem dX0_passYear_58 : decode cX0_passYear 58 = .ok (.putfield 60, 3) := by decide +kernel
theorem dX0_passYear_61 : decode cX0_passYear 61 = .ok (.goto 20, 3) := by decide +kernel
theorem dX0_passYear_64 : decode cX0_passYear 64 = .ok (.aload_n 0, 1) := by decide +kernel
theorem dX0_passYear_65 : decode cX0_passYear 65 = .ok (.getfield 19, 3) := by decide +kernel
theorem dX0_passYear_68 : decode cX0_passYear 68 = .ok (.iload_n 1, 1) := by decide +kernel
theorem dX0_passYear_69 : decode cX0_passYear 69 = .ok (.aaload, 1) := by decide +kernel
theorem dX0_passYear_70 : decode cX0_passYear 70 = .ok (.aload_n 0, 1) := by decide +kernel
theorem dX0_passYear_71 : decode cX0_passYear 71 = .ok (.aload_n 0, 1) := by decide +kernel
theorem dX0_passYear_72 : decode cX0_passYear 72 = .ok (.getfield 27, 3) := by decide +kernel
theorem dX0_passYear_75 : decode cX0_passYear 75 = .ok (.invokevirtual 121, 3) := by decide +kernel
theorem dX0_passYear_78 : decode cX0_passYear 78 = .ok (.putfield 60, 3) := by decide +kernel
theorem dX0_passYear_81 : decode cX0_passYear 81 = .ok (.aload_n 0, 1) := by decide +kernel
theorem dX0_passYear_82 : decode cX0_passYear 82 = .ok (.invokevirtual 130, 3) := by decide +kernel
theorem dX0_passYear_85 : decode cX0_passYear 85 = .ok (.pop, 1) := by decide +kernel
theorem dX0_passYear_86 : decode cX0_passYear 86 = .ok (.return_, 1) := by decide +kernel
theorem dX0_likeness_0 : decode cX0_likeness 0 = .ok (.iconst 0, 1) := by decide +kernel
theorem dX0_likeness_1 : decode cX0_likeness 1 = .ok (.istore_n 3, 1) := by decide +kernel
theorem dX0_likeness_2 : decode cX0_likeness 2 = .ok (.iconst 0, 1) := by decide +kernel
theorem dX0_likeness_3 : decode cX0_likeness 3 = .ok (.istore 4, 2) := by decide +kernel
theorem dX0_likeness_5 : decode cX0_likeness 5 = .ok (.iload 4, 2) := by decide +kernel
theorem dX0_likeness_7 : decode cX0_likeness 7 = .ok (.bipush 12, 2) := by decide +kernel
theorem dX0_likeness_9 : decode cX0_likeness 9 = .ok (.if_icmp .ge 48, 3) := by decide +kernel
theorem dX0_likeness_12 : decode cX0_likeness 12 = .ok (.aload_n 0, 1) := by decide +kernel
theorem dX0_likeness_13 : decode cX0_likeness 13 = .ok (.getfield 11, 3) := by decide +kernel
theorem dX0_likeness_16 : decode cX0_likeness 16 = .ok (.iload_n 2, 1) := by decide +kernel
theorem dX0_likeness_17 : decode cX0_likeness 17 = .ok (.aaload, 1) := by decide +kernel
theorem dX0_likeness_18 : decode cX0_likeness 18 = .ok (.getfield 88, 3) := by decide +kernel
theorem dX0_likeness_21 : decode cX0_likeness 21 = .ok (.iload 4, 2) := by decide +kernel
theorem dX0_likeness_23 : decode cX0_likeness 23 = .ok (.iaload, 1) := by decide +kernel
theorem dX0_likeness_24 : decode cX0_likeness 24 = .ok (.istore 5, 2) := by decide +kernel
theorem dX0_likeness_26 : decode cX0_likeness 26 = .ok (.iload 5, 2) := by decide +kernel
theorem dX0_likeness_28 : decode cX0_likeness 28 = .ok (.ifCond .eq 23, 3) := by decide +kernel
theorem dX0_likeness_31 : decode cX0_likeness 31 = .ok (.aload_n 0, 1) := by decide +kernel
theorem dX0_likeness_32 : decode cX0_likeness 32 = .ok (.getfield 19, 3) := by decide +kernel
theorem dX0_likeness_35 : decode cX0_likeness 35 = .ok (.iload_n 1, 1) := by decide +kernel
theorem dX0_likeness_36 : decode cX0_likeness 36 = .ok (.aaload, 1) := by decide +kernel
theorem dX0_likeness_37 : decode cX0_likeness 37 = .ok (.getfield 76, 3) := by decide +kernel
theorem dX0_likeness_40 : decode cX0_likeness 40 = .ok (.iload 4, 2) := by decide +kernel
theorem dX0_likeness_42 : decode cX0_likeness 42 = .ok (.iaload, 1) := by decide +kernel
theorem dX0_likeness_43 : decode cX0_likeness 43 = .ok (.iload 5, 2) := by decide +kernel
theorem dX0_likeness_45 : decode cX0_likeness 45 = .ok (.if_icmp .ne 6, 3) := by decide +kernel
theorem dX0_likeness_48 : decode cX0_likeness 48 = .ok (.iinc 3 1, 3) := by decide +kernel
theorem dX0_likeness_51 : decode cX0_likeness 51 = .ok (.iinc 4 1, 3) := by decide +kernel
theorem dX0_likeness_54 : decode cX0_likeness 54 = .ok (.goto (-49), 3) := by decide +kernel
theorem dX0_likeness_57 : decode cX0_likeness 57 = .ok (.iload_n 3, 1) := by decide +kernel
theorem dX0_likeness_58 : decode cX0_likeness 58 = .ok (.ireturn, 1) := by decide +kernel
theorem dX0_mostLike_0 : decode cX0_mostLike 0 = .ok (.iconst (-1), 1) := by decide +kernel
theorem dX0_mostLike_1 : decode cX0_mostLike 1 = .ok (.istore_n 2, 1) := by decide +kernel
theorem dX0_mostLike_2 : decode cX0_mostLike 2 = .ok (.iconst 0, 1) := by decide +kernel
theorem dX0_mostLike_3 : decode cX0_mostLike 3 = .ok (.istore_n 3, 1) := by decide +kernel
theorem dX0_mostLike_4 : decode cX0_mostLike 4 = .ok (.iconst 0, 1) := by decide +kernel
theorem dX0_mostLike_5 : decode cX0_mostLike 5 = .ok (.istore 4, 2) := by decide +kernel
theorem dX0_mostLike_7 : decode cX0_mostLike 7 = .ok (.iload 4, 2) := by decide +kernel
theorem dX0_mostLike_9 : decode cX0_mostLike 9 = .ok (.aload_n 0, 1) := by decide +kernel
theorem dX0_mostLike_10 : decode cX0_mostLike 10 = .ok (.getfield 27, 3) := by decide +kernel
theorem dX0_mostLike_13 : decode cX0_mostLike 13 = .ok (.if_icmp .ge 30, 3) := by decide +kernel
theorem dX0_mostLike_16 : decode cX0_mostLike 16 = .ok (.aload_n 0, 1) := by decide +kernel
theorem dX0_mostLike_17 : decode cX0_mostLike 17 = .ok (.iload_n 1, 1) := by decide +kernel
theorem dX0_mostLike_18 : decode cX0_mostLike 18 = .ok (.iload 4, 2) := by decide +kernel
theorem dX0_mostLike_20 : decode cX0_mostLike 20 = .ok (.invokevirtual 133, 3) := by decide +kernel
theorem dX0_mostLike_23 : decode cX0_mostLike 23 = .ok (.istore 5, 2) := by decide +kernel
theorem dX0_mostLike_25 : decode cX0_mostLike 25 = .ok (.iload 5, 2) := by decide +kernel
theorem dX0_mostLike_27 : decode cX0_mostLike 27 = .ok (.iload_n 3, 1) := by decide +kernel
theorem dX0_mostLike_28 : decode cX0_mostLike 28 = .ok (.if_icmp .le 9, 3) := by decide +kernel
theorem dX0_mostLike_31 : decode cX0_mostLike 31 = .ok (.iload 5, 2) := by decide +kernel
theorem dX0_mostLike_33 : decode cX0_mostLike 33 = .ok (.istore_n 3, 1) := by decide +kernel
theorem dX0_mostLike_34 : decode cX0_mostLike 34 = .ok (.iload 4, 2) := by decide +kernel
theorem dX0_mostLike_36 : decode cX0_mostLike 36 = .ok (.istore_n 2, 1) := by decide +kernel
theorem dX0_mostLike_37 : decode cX0_mostLike 37 = .ok (.iinc 4 1, 3) := by decide +kernel
theorem dX0_mostLike_40 : decode cX0_mostLike 40 = .ok (.goto (-33), 3) := by decide +kernel
theorem dX0_mostLike_43 : decode cX0_mostLike 43 = .ok (.iload_n 2, 1) := by decide +kernel
theorem dX0_mostLike_44 : decode cX0_mostLike 44 = .ok (.ireturn, 1) := by decide +kernel
theorem dX0_unlikeDeeds_0 : decode cX0_unlikeDeeds 0 = .ok (.iconst 0, 1) := by decide +kernel
theorem dX0_unlikeDeeds_1 : decode cX0_unlikeDeeds 1 = .ok (.istore_n 2, 1) := by decide +kernel
theorem dX0_unlikeDeeds_2 : decode cX0_unlikeDeeds 2 = .ok (.iconst 0, 1) := by decide +kernel
theorem dX0_unlikeDeeds_3 : decode cX0_unlikeDeeds 3 = .ok (.istore_n 3, 1) := by decide +kernel
theorem dX0_unlikeDeeds_4 : decode cX0_unlikeDeeds 4 = .ok (.iload_n 3, 1) := by decide +kernel
theorem dX0_unlikeDeeds_5 : decode cX0_unlikeDeeds 5 = .ok (.aload_n 0, 1) := by decide +kernel
theorem dX0_unlikeDeeds_6 : decode cX0_unlikeDeeds 6 = .ok (.getfield 27, 3) := by decide +kernel
theorem dX0_unlikeDeeds_9 : decode cX0_unlikeDeeds 9 = .ok (.if_icmp .ge 20, 3) := by decide +kernel
theorem dX0_unlikeDeeds_12 : decode cX0_unlikeDeeds 12 = .ok (.iload_n 2, 1) := by decide +kernel
theorem dX0_unlikeDeeds_13 : decode cX0_unlikeDeeds 13 = .ok (.iconst 1, 1) := by decide +kernel
theorem dX0_unlikeDeeds_14 : decode cX0_unlikeDeeds 14 = .ok (.aload_n 0, 1) := by decide +kernel
theorem dX0_unlikeDeeds_15 : decode cX0_unlikeDeeds 15 = .ok (.iload_n 3, 1) := by decide +kernel
theorem dX0_unlikeDeeds_16 : decode cX0_unlikeDeeds 16 = .ok (.iload_n 1, 1) := by decide +kernel
theorem dX0_unlikeDeeds_17 : decode cX0_unlikeDeeds 17 = .ok (.invokevirtual 136, 3) := by decide +kernel
theorem dX0_unlikeDeeds_20 : decode cX0_unlikeDeeds 20 = .ok (.ishl, 1) := by decide +kernel
theorem dX0_unlikeDeeds_21 : decode cX0_unlikeDeeds 21 = .ok (.ior, 1) := by decide +kernel
theorem dX0_unlikeDeeds_22 : decode cX0_unlikeDeeds 22 = .ok (.istore_n 2, 1) := by decide +kernel
theorem dX0_unlikeDeeds_23 : decode cX0_unlikeDeeds 23 = .ok (.iinc 3 1, 3) := by decide +kernel
theorem dX0_unlikeDeeds_26 : decode cX0_unlikeDeeds 26 = .ok (.goto (-22), 3) := by decide +kernel
theorem dX0_unlikeDeeds_29 : decode cX0_unlikeDeeds 29 = .ok (.iload_n 2, 1) := by decide +kernel
theorem dX0_unlikeDeeds_30 : decode cX0_unlikeDeeds 30 = .ok (.bipush (-2), 2) := by decide +kernel
theorem dX0_unlikeDeeds_32 : decode cX0_unlikeDeeds 32 = .ok (.iand, 1) := by decide +kernel
theorem dX0_unlikeDeeds_33 : decode cX0_unlikeDeeds 33 = .ok (.invokestatic 67, 3) := by decide +kernel
theorem dX0_unlikeDeeds_36 : decode cX0_unlikeDeeds 36 = .ok (.ireturn, 1) := by decide +kernel
theorem dX0_hoursInStrife_0 : decode cX0_hoursInStrife 0 = .ok (.iconst 0, 1) := by decide +kernel
theorem dX0_hoursInStrife_1 : decode cX0_hoursInStrife 1 = .ok (.istore_n 3, 1) := by decide +kernel
theorem dX0_hoursInStrife_2 : decode cX0_hoursInStrife 2 = .ok (.iconst 0, 1) := by decide +kernel
theorem dX0_hoursInStrife_3 : decode cX0_hoursInStrife 3 = .ok (.istore 4, 2) := by decide +kernel
theorem dX0_hoursInStrife_5 : decode cX0_hoursInStrife 5 = .ok (.iload 4, 2) := by decide +kernel
theorem dX0_hoursInStrife_7 : decode cX0_hoursInStrife 7 = .ok (.bipush 12, 2) := by decide +kernel
theorem dX0_hoursInStrife_9 : decode cX0_hoursInStrife 9 = .ok (.if_icmp .ge 57, 3) := by decide +kernel
theorem dX0_hoursInStrife_12 : decode cX0_hoursInStrife 12 = .ok (.aload_n 0, 1) := by decide +kernel
theorem dX0_hoursInStrife_13 : decode cX0_hoursInStrife 13 = .ok (.getfield 19, 3) := by decide +kernel
theorem dX0_hoursInStrife_16 : decode cX0_hoursInStrife 16 = .ok (.iload_n 1, 1) := by decide +kernel
theorem dX0_hoursInStrife_17 : decode cX0_hoursInStrife 17 = .ok (.aaload, 1) := by decide +kernel
theorem dX0_hoursInStrife_18 : decode cX0_hoursInStrife 18 = .ok (.getfield 76, 3) := by decide +kernel
theorem dX0_hoursInStrife_21 : decode cX0_hoursInStrife 21 = .ok (.iload 4, 2) := by decide +kernel
theorem dX0_hoursInStrife_23 : decode cX0_hoursInStrife 23 = .ok (.iaload, 1) := by decide +kernel
theorem dX0_hoursInStrife_24 : decode cX0_hoursInStrife 24 = .ok (.istore 5, 2) := by decide +kernel
theorem dX0_hoursInStrife_26 : decode cX0_hoursInStrife 26 = .ok (.aload_n 0, 1) := by decide +kernel
theorem dX0_hoursInStrife_27 : decode cX0_hoursInStrife 27 = .ok (.getfield 19, 3) := by decide +kernel
theorem dX0_hoursInStrife_30 : decode cX0_hoursInStrife 30 = .ok (.iload_n 2, 1) := by decide +kernel
theorem dX0_hoursInStrife_31 : decode cX0_hoursInStrife 31 = .ok (.aaload, 1) := by decide +kernel
theorem dX0_hoursInStrife_32 : decode cX0_hoursInStrife 32 = .ok (.getfield 76, 3) := by decide +kernel
theorem dX0_hoursInStrife_35 : decode cX0_hoursInStrife 35 = .ok (.iload 4, 2) := by decide +kernel
theorem dX0_hoursInStrife_37 : decode cX0_hoursInStrife 37 = .ok (.iaload, 1) := by decide +kernel
theorem dX0_hoursInStrife_38 : decode cX0_hoursInStrife 38 = .ok (.istore 6, 2) := by decide +kernel
theorem dX0_hoursInStrife_40 : decode cX0_hoursInStrife 40 = .ok (.iload 5, 2) := by decide +kernel
theorem dX0_hoursInStrife_42 : decode cX0_hoursInStrife 42 = .ok (.ifCond .eq 18, 3) := by decide +kernel
theorem dX0_hoursInStrife_45 : decode cX0_hoursInStrife 45 = .ok (.iload 6, 2) := by decide +kernel
theorem dX0_hoursInStrife_47 : decode cX0_hoursInStrife 47 = .ok (.ifCond .eq 13, 3) := by decide +kernel
theorem dX0_hoursInStrife_50 : decode cX0_hoursInStrife 50 = .ok (.iload 5, 2) := by decide +kernel
theorem dX0_hoursInStrife_52 : decode cX0_hoursInStrife 52 = .ok (.iload 6, 2) := by decide +kernel
theorem dX0_hoursInStrife_54 : decode cX0_hoursInStrife 54 = .ok (.if_icmp .eq 6, 3) := by decide +kernel
theorem dX0_hoursInStrife_57 : decode cX0_hoursInStrife 57 = .ok (.iinc 3 1, 3) := by decide +kernel
theorem dX0_hoursInStrife_60 : decode cX0_hoursInStrife 60 = .ok (.iinc 4 1, 3) := by decide +kernel
theorem dX0_hoursInStrife_63 : decode cX0_hoursInStrife 63 = .ok (.goto (-58), 3) := by decide +kernel
theorem dX0_hoursInStrife_66 : decode cX0_hoursInStrife 66 = .ok (.iload_n 3, 1) := by decide +kernel
theorem dX0_hoursInStrife_67 : decode cX0_hoursInStrife 67 = .ok (.ireturn, 1) := by decide +kernel
theorem dX0_habitsPatched_0 : decode cX0_habitsPatched 0 = .ok (.iconst 0, 1) := by decide +kernel
theorem dX0_habitsPatched_1 : decode cX0_habitsPatched 1 = .ok (.istore_n 3, 1) := by decide +kernel
theorem dX0_habitsPatched_2 : decode cX0_habitsPatched 2 = .ok (.iconst 0, 1) := by decide +kernel
theorem dX0_habitsPatched_3 : decode cX0_habitsPatched 3 = .ok (.istore 4, 2) := by decide +kernel
theorem dX0_habitsPatched_5 : decode cX0_habitsPatched 5 = .ok (.iload 4, 2) := by decide +kernel
theorem dX0_habitsPatched_7 : decode cX0_habitsPatched 7 = .ok (.bipush 12, 2) := by decide +kernel
theorem dX0_habitsPatched_9 : decode cX0_habitsPatched 9 = .ok (.if_icmp .ge 29, 3) := by decide +kernel
theorem dX0_habitsPatched_12 : decode cX0_habitsPatched 12 = .ok (.aload_n 0, 1) := by decide +kernel
theorem dX0_habitsPatched_13 : decode cX0_habitsPatched 13 = .ok (.iload_n 1, 1) := by decide +kernel
theorem dX0_habitsPatched_14 : decode cX0_habitsPatched 14 = .ok (.iload 4, 2) := by decide +kernel
theorem dX0_habitsPatched_16 : decode cX0_habitsPatched 16 = .ok (.invokevirtual 91, 3) := by decide +kernel
theorem dX0_habitsPatched_19 : decode cX0_habitsPatched 19 = .ok (.aload_n 0, 1) := by decide +kernel
theorem dX0_habitsPatched_20 : decode cX0_habitsPatched 20 = .ok (.iload_n 2, 1) := by decide +kernel
theorem dX0_habitsPatched_21 : decode cX0_habitsPatched 21 = .ok (.iload 4, 2) := by decide +kernel
theorem dX0_habitsPatched_23 : decode cX0_habitsPatched 23 = .ok (.invokevirtual 91, 3) := by decide +kernel
theorem dX0_habitsPatched_26 : decode cX0_habitsPatched 26 = .ok (.if_icmp .le 6, 3) := by decide +kernel
theorem dX0_habitsPatched_29 : decode cX0_habitsPatched 29 = .ok (.iinc 3 1, 3) := by decide +kernel
theorem dX0_habitsPatched_32 : decode cX0_habitsPatched 32 = .ok (.iinc 4 1, 3) := by decide +kernel
theorem dX0_habitsPatched_35 : decode cX0_habitsPatched 35 = .ok (.goto (-30), 3) := by decide +kernel
theorem dX0_habitsPatched_38 : decode cX0_habitsPatched 38 = .ok (.iload_n 3, 1) := by decide +kernel
theorem dX0_habitsPatched_39 : decode cX0_habitsPatched 39 = .ok (.ireturn, 1) := by decide +kernel
theorem dX0_doesAllOwn_0 : decode cX0_doesAllOwn 0 = .ok (.iconst 0, 1) := by decide +kernel
theorem dX0_doesAllOwn_1 : decode cX0_doesAllOwn 1 = .ok (.istore 4, 2) := by decide +kernel
theorem dX0_doesAllOwn_3 : decode cX0_doesAllOwn 3 = .ok (.iload 4, 2) := by decide +kernel
theorem dX0_doesAllOwn_5 : decode cX0_doesAllOwn 5 = .ok (.bipush 12, 2) := by decide +kernel
theorem dX0_doesAllOwn_7 : decode cX0_doesAllOwn 7 = .ok (.if_icmp .ge 35, 3) := by decide +kernel
theorem dX0_doesAllOwn_10 : decode cX0_doesAllOwn 10 = .ok (.aload_n 0, 1) := by decide +kernel
theorem dX0_doesAllOwn_11 : decode cX0_doesAllOwn 11 = .ok (.iload_n 1, 1) := by decide +kernel
theorem dX0_doesAllOwn_12 : decode cX0_doesAllOwn 12 = .ok (.iload 4, 2) := by decide +kernel
theorem dX0_doesAllOwn_14 : decode cX0_doesAllOwn 14 = .ok (.iload_n 2, 1) := by decide +kernel
theorem dX0_doesAllOwn_15 : decode cX0_doesAllOwn 15 = .ok (.iload_n 3, 1) := by decide +kernel
theorem dX0_doesAllOwn_16 : decode cX0_doesAllOwn 16 = .ok (.invokevirtual 98, 3) := by decide +kernel
theorem dX0_doesAllOwn_19 : decode cX0_doesAllOwn 19 = .ok (.aload_n 0, 1) := by decide +kernel
theorem dX0_doesAllOwn_20 : decode cX0_doesAllOwn 20 = .ok (.getfield 11, 3) := by decide +kernel
theorem dX0_doesAllOwn_23 : decode cX0_doesAllOwn 23 = .ok (.iload_n 1, 1) := by decide +kernel
theorem dX0_doesAllOwn_24 : decode cX0_doesAllOwn 24 = .ok (.aaload, 1) := by decide +kernel
theorem dX0_doesAllOwn_25 : decode cX0_doesAllOwn 25 = .ok (.getfield 88, 3) := by decide +kernel
theorem dX0_doesAllOwn_28 : decode cX0_doesAllOwn 28 = .ok (.iload 4, 2) := by decide +kernel
theorem dX0_doesAllOwn_30 : decode cX0_doesAllOwn 30 = .ok (.iaload, 1) := by decide +kernel
theorem dX0_doesAllOwn_31 : decode cX0_doesAllOwn 31 = .ok (.if_icmp .eq 5, 3) := by decide +kernel
theorem dX0_doesAllOwn_34 : decode cX0_doesAllOwn 34 = .ok (.iconst 0, 1) := by decide +kernel
theorem dX0_doesAllOwn_35 : decode cX0_doesAllOwn 35 = .ok (.ireturn, 1) := by decide +kernel
theorem dX0_doesAllOwn_36 : decode cX0_doesAllOwn 36 = .ok (.iinc 4 1, 3) := by decide +kernel
theorem dX0_doesAllOwn_39 : decode cX0_doesAllOwn 39 = .ok (.goto (-36), 3) := by decide +kernel
theorem dX0_doesAllOwn_42 : decode cX0_doesAllOwn 42 = .ok (.iconst 1, 1) := by decide +kernel
theorem dX0_doesAllOwn_43 : decode cX0_doesAllOwn 43 = .ok (.ireturn, 1) := by decide +kernel
theorem dX0_leastWill_0 : decode cX0_leastWill 0 = .ok (.aload_n 0, 1) := by decide +kernel
theorem dX0_leastWill_1 : decode cX0_leastWill 1 = .ok (.iload_n 1, 1) := by decide +kernel
theorem dX0_leastWill_2 : decode cX0_leastWill 2 = .ok (.invokevirtual 63, 3) := by decide +kernel
theorem dX0_leastWill_5 : decode cX0_leastWill 5 = .ok (.istore_n 2, 1) := by decide +kernel
theorem dX0_leastWill_6 : decode cX0_leastWill 6 = .ok (.iconst 0, 1) := by decide +kernel
theorem dX0_leastWill_7 : decode cX0_leastWill 7 = .ok (.istore_n 3, 1) := by decide +kernel
theorem dX0_leastWill_8 : decode cX0_leastWill 8 = .ok (.iload_n 3, 1) := by decide +kernel
theorem dX0_leastWill_9 : decode cX0_leastWill 9 = .ok (.bipush 9, 2) := by decide +kernel
theorem dX0_leastWill_11 : decode cX0_leastWill 11 = .ok (.if_icmp .gt 21, 3) := by decide +kernel
theorem dX0_leastWill_14 : decode cX0_leastWill 14 = .ok (.aload_n 0, 1) := by decide +kernel
theorem dX0_leastWill_15 : decode cX0_leastWill 15 = .ok (.iload_n 1, 1) := by decide +kernel
theorem dX0_leastWill_16 : decode cX0_leastWill 16 = .ok (.iload_n 2, 1) := by decide +kernel
theorem dX0_leastWill_17 : decode cX0_leastWill 17 = .ok (.iload_n 3, 1) := by decide +kernel
theorem dX0_leastWill_18 : decode cX0_leastWill 18 = .ok (.invokevirtual 139, 3) := by decide +kernel
theorem dX0_leastWill_21 : decode cX0_leastWill 21 = .ok (.ifCond .eq 5, 3) := by decide +kernel
theorem dX0_leastWill_24 : decode cX0_leastWill 24 = .ok (.iload_n 3, 1) := by decide +kernel
theorem dX0_leastWill_25 : decode cX0_leastWill 25 = .ok (.ireturn, 1) := by decide +kernel
theorem dX0_leastWill_26 : decode cX0_leastWill 26 = .ok (.iinc 3 1, 3) := by decide +kernel
theorem dX0_leastWill_29 : decode cX0_leastWill 29 = .ok (.goto (-21), 3) := by decide +kernel
theorem dX0_leastWill_32 : decode cX0_leastWill 32 = .ok (.iconst (-1), 1) := by decide +kernel
theorem dX0_leastWill_33 : decode cX0_leastWill 33 = .ok (.ireturn, 1) := by decide +kernel
theorem dX0_fewestOff_0 : decode cX0_fewestOff 0 = .ok (.aload_n 0, 1) := by decide +kernel
theorem dX0_fewestOff_1 : decode cX0_fewestOff 1 = .ok (.iload_n 1, 1) := by decide +kernel
theorem dX0_fewestOff_2 : decode cX0_fewestOff 2 = .ok (.invokevirtual 63, 3) := by decide +kernel
theorem dX0_fewestOff_5 : decode cX0_fewestOff 5 = .ok (.istore_n 2, 1) := by decide +kernel
theorem dX0_fewestOff_6 : decode cX0_fewestOff 6 = .ok (.iload_n 2, 1) := by decide +kernel
theorem dX0_fewestOff_7 : decode cX0_fewestOff 7 = .ok (.istore_n 3, 1) := by decide +kernel
theorem dX0_fewestOff_8 : decode cX0_fewestOff 8 = .ok (.iconst 0, 1) := by decide +kernel
theorem dX0_fewestOff_9 : decode cX0_fewestOff 9 = .ok (.istore 4, 2) := by decide +kernel
theorem dX0_fewestOff_11 : decode cX0_fewestOff 11 = .ok (.iload 4, 2) := by decide +kernel
theorem dX0_fewestOff_13 : decode cX0_fewestOff 13 = .ok (.iload_n 2, 1) := by decide +kernel
theorem dX0_fewestOff_14 : decode cX0_fewestOff 14 = .ok (.if_icmp .ge 56, 3) := by decide +kernel
theorem dX0_fewestOff_17 : decode cX0_fewestOff 17 = .ok (.iload 4, 2) := by decide +kernel
theorem dX0_fewestOff_19 : decode cX0_fewestOff 19 = .ok (.iload_n 2, 1) := by decide +kernel
theorem dX0_fewestOff_20 : decode cX0_fewestOff 20 = .ok (.iconst (-1), 1) := by decide +kernel
theorem dX0_fewestOff_21 : decode cX0_fewestOff 21 = .ok (.ixor, 1) := by decide +kernel
theorem dX0_fewestOff_22 : decode cX0_fewestOff 22 = .ok (.iand, 1) := by decide +kernel
theorem dX0_fewestOff_23 : decode cX0_fewestOff 23 = .ok (.ifCond .ne 41, 3) := by decide +kernel
theorem dX0_fewestOff_26 : decode cX0_fewestOff 26 = .ok (.iload 4, 2) := by decide +kernel
theorem dX0_fewestOff_28 : decode cX0_fewestOff 28 = .ok (.invokestatic 67, 3) := by decide +kernel
theorem dX0_fewestOff_31 : decode cX0_fewestOff 31 = .ok (.iload_n 3, 1) := by decide +kernel
theorem dX0_fewestOff_32 : decode cX0_fewestOff 32 = .ok (.invokestatic 67, 3) := by decide +kernel
theorem dX0_fewestOff_35 : decode cX0_fewestOff 35 = .ok (.if_icmp .ge 29, 3) := by decide +kernel
theorem dX0_fewestOff_38 : decode cX0_fewestOff 38 = .ok (.aload_n 0, 1) := by decide +kernel
theorem dX0_fewestOff_39 : decode cX0_fewestOff 39 = .ok (.iload_n 1, 1) := by decide +kernel
theorem dX0_fewestOff_40 : decode cX0_fewestOff 40 = .ok (.iload_n 2, 1) := by decide +kernel
theorem dX0_fewestOff_41 : decode cX0_fewestOff 41 = .ok (.iload 4, 2) := by decide +kernel
theorem dX0_fewestOff_43 : decode cX0_fewestOff 43 = .ok (.iconst (-1), 1) := by decide +kernel
theorem dX0_fewestOff_44 : decode cX0_fewestOff 44 = .ok (.ixor, 1) := by decide +kernel
theorem dX0_fewestOff_45 : decode cX0_fewestOff 45 = .ok (.iand, 1) := by decide +kernel
theorem dX0_fewestOff_46 : decode cX0_fewestOff 46 = .ok (.aload_n 0, 1) := by decide +kernel
theorem dX0_fewestOff_47 : decode cX0_fewestOff 47 = .ok (.getfield 11, 3) := by decide +kernel
theorem dX0_fewestOff_50 : decode cX0_fewestOff 50 = .ok (.iload_n 1, 1) := by decide +kernel
theorem dX0_fewestOff_51 : decode cX0_fewestOff 51 = .ok (.aaload, 1) := by decide +kernel
theorem dX0_fewestOff_52 : decode cX0_fewestOff 52 = .ok (.getfield 95, 3) := by decide +kernel
theorem dX0_fewestOff_55 : decode cX0_fewestOff 55 = .ok (.invokevirtual 139, 3) := by decide +kernel
theorem dX0_fewestOff_58 : decode cX0_fewestOff 58 = .ok (.ifCond .eq 6, 3) := by decide +kernel
theorem dX0_fewestOff_61 : decode cX0_fewestOff 61 = .ok (.iload 4, 2) := by decide +kernel
theorem dX0_fewestOff_63 : decode cX0_fewestOff 63 = .ok (.istore_n 3, 1) := by decide +kernel
theorem dX0_fewestOff_64 : decode cX0_fewestOff 64 = .ok (.iinc 4 1, 3) := by decide +kernel
theorem dX0_fewestOff_67 : decode cX0_fewestOff 67 = .ok (.goto (-56), 3) := by decide +kernel
theorem dX0_fewestOff_70 : decode cX0_fewestOff 70 = .ok (.iload_n 3, 1) := by decide +kernel
theorem dX0_fewestOff_71 : decode cX0_fewestOff 71 = .ok (.ireturn, 1) := by decide +kernel
theorem dX1_init_0 : decode cX1_init 0 = .ok (.aload_n 0, 1) := by decide +kernel
theorem dX1_init_1 : decode cX1_init 1 = .ok (.invokespecial 3, 3) := by decide +kernel
theorem dX1_init_4 : decode cX1_init 4 = .ok (.aload_n 0, 1) := by decide +kernel
theorem dX1_init_5 : decode cX1_init 5 = .ok (.iconst 4, 1) := by decide +kernel
theorem dX1_init_6 : decode cX1_init 6 = .ok (.newarray .int, 2) := by decide +kernel
theorem dX1_init_8 : decode cX1_init 8 = .ok (.putfield 9, 3) := by decide +kernel
theorem dX1_init_11 : decode cX1_init 11 = .ok (.aload_n 0, 1) := by decide +kernel
theorem dX1_init_12 : decode cX1_init 12 = .ok (.iconst (-1), 1) := by decide +kernel
theorem dX1_init_13 : decode cX1_init 13 = .ok (.putfield 15, 3) := by decide +kernel
theorem dX1_init_16 : decode cX1_init 16 = .ok (.aload_n 0, 1) := by decide +kernel
theorem dX1_init_17 : decode cX1_init 17 = .ok (.iconst 4, 1) := by decide +kernel
theorem dX1_init_18 : decode cX1_init 18 = .ok (.newarray .int, 2) := by decide +kernel
theorem dX1_init_20 : decode cX1_init 20 = .ok (.putfield 19, 3) := by decide +kernel
theorem dX1_init_23 : decode cX1_init 23 = .ok (.aload_n 0, 1) := by decide +kernel
theorem dX1_init_24 : decode cX1_init 24 = .ok (.bipush 6, 2) := by decide +kernel
theorem dX1_init_26 : decode cX1_init 26 = .ok (.newarray .int, 2) := by decide +kernel
theorem dX1_init_28 : decode cX1_init 28 = .ok (.putfield 22, 3) := by decide +kernel
theorem dX1_init_31 : decode cX1_init 31 = .ok (.aload_n 0, 1) := by decide +kernel
theorem dX1_init_32 : decode cX1_init 32 = .ok (.bipush 96, 2) := by decide +kernel
theorem dX1_init_34 : decode cX1_init 34 = .ok (.newarray .int, 2) := by decide +kernel
theorem dX1_init_36 : decode cX1_init 36 = .ok (.putfield 25, 3) := by decide +kernel
theorem dX1_init_39 : decode cX1_init 39 = .ok (.return_, 1) := by decide +kernel
theorem dX1_search_0 : decode cX1_search 0 = .ok (.aload_n 0, 1) := by decide +kernel
theorem dX1_search_1 : decode cX1_search 1 = .ok (.aload_n 1, 1) := by decide +kernel
theorem dX1_search_2 : decode cX1_search 2 = .ok (.aload_n 2, 1) := by decide +kernel
theorem dX1_search_3 : decode cX1_search 3 = .ok (.iload_n 3, 1) := by decide +kernel
theorem dX1_search_4 : decode cX1_search 4 = .ok (.invokevirtual 28, 3) := by decide +kernel
theorem dX1_search_7 : decode cX1_search 7 = .ok (.aload_n 0, 1) := by decide +kernel
theorem dX1_search_8 : decode cX1_search 8 = .ok (.getfield 19, 3) := by decide +kernel
theorem dX1_search_11 : decode cX1_search 11 = .ok (.iconst 0, 1) := by decide +kernel
theorem dX1_search_12 : decode cX1_search 12 = .ok (.invokestatic 32, 3) := by decide +kernel
theorem dX1_search_15 : decode cX1_search 15 = .ok (.aload_n 0, 1) := by decide +kernel
theorem dX1_search_16 : decode cX1_search 16 = .ok (.iconst (-1), 1) := by decide +kernel
theorem dX1_search_17 : decode cX1_search 17 = .ok (.putfield 15, 3) := by decide +kernel
theorem dX1_search_20 : decode cX1_search 20 = .ok (.iconst 1, 1) := by decide +kernel
theorem dX1_search_21 : decode cX1_search 21 = .ok (.istore 4, 2) := by decide +kernel
theorem dX1_search_23 : decode cX1_search 23 = .ok (.iconst 0, 1) := by decide +kernel
theorem dX1_search_24 : decode cX1_search 24 = .ok (.istore 5, 2) := by decide +kernel
theorem dX1_search_26 : decode cX1_search 26 = .ok (.iload 5, 2) := by decide +kernel
theorem dX1_search_28 : decode cX1_search 28 = .ok (.sipush 2401, 3) := by decide +kernel
theorem dX1_search_31 : decode cX1_search 31 = .ok (.if_icmp .ge 65, 3) := by decide +kernel
theorem dX1_search_34 : decode cX1_search 34 = .ok (.iload 4, 2) := by decide +kernel
theorem dX1_search_36 : decode cX1_search 36 = .ok (.ifCond .eq 60, 3) := by decide +kernel
theorem dX1_search_39 : decode cX1_search 39 = .ok (.aload_n 0, 1) := by decide +kernel
theorem dX1_search_40 : decode cX1_search 40 = .ok (.aload_n 1, 1) := by decide +kernel
theorem dX1_search_41 : decode cX1_search 41 = .ok (.getfield 38, 3) := by decide +kernel
theorem dX1_search_44 : decode cX1_search 44 = .ok (.iload_n 3, 1) := by decide +kernel
theorem dX1_search_45 : decode cX1_search 45 = .ok (.invokevirtual 43, 3) := by decide +kernel
theorem dX1_search_48 : decode cX1_search 48 = .ok (.istore 6, 2) := by decide +kernel
theorem dX1_search_50 : decode cX1_search 50 = .ok (.iload 6, 2) := by decide +kernel
theorem dX1_search_52 : decode cX1_search 52 = .ok (.aload_n 0, 1) := by decide +kernel
theorem dX1_search_53 : decode cX1_search 53 = .ok (.getfield 15, 3) := by decide +kernel
theorem dX1_search_56 : decode cX1_search 56 = .ok (.if_icmp .le 23, 3) := by decide +kernel
theorem dX1_search_59 : decode cX1_search 59 = .ok (.aload_n 0, 1) := by decide +kernel
theorem dX1_search_60 : decode cX1_search 60 = .ok (.iload 6, 2) := by decide +kernel
theorem dX1_search_62 : decode cX1_search 62 = .ok (.putfield 15, 3) := by decide +kernel
theorem dX1_search_65 : decode cX1_search 65 = .ok (.aload_n 0, 1) := by decide +kernel
theorem dX1_search_66 : decode cX1_search 66 = .ok (.getfield 19, 3) := by decide +kernel
theorem dX1_search_69 : decode cX1_search 69 = .ok (.iconst 0, 1) := by decide +kernel
theorem dX1_search_70 : decode cX1_search 70 = .ok (.aload_n 0, 1) := by decide +kernel
theorem dX1_search_71 : decode cX1_search 71 = .ok (.getfield 9, 3) := by decide +kernel
theorem dX1_search_74 : decode cX1_search 74 = .ok (.iconst 0, 1) := by decide +kernel
theorem dX1_search_75 : decode cX1_search 75 = .ok (.iconst 4, 1) := by decide +kernel
theorem dX1_search_76 : decode cX1_search 76 = .ok (.invokestatic 47, 3) := by decide +kernel
theorem dX1_search_79 : decode cX1_search 79 = .ok (.aload_n 0, 1) := by decide +kernel
theorem dX1_search_80 : decode cX1_search 80 = .ok (.aload_n 1, 1) := by decide +kernel
theorem dX1_search_81 : decode cX1_search 81 = .ok (.getfield 38, 3) := by decide +kernel
theorem dX1_search_84 : decode cX1_search 84 = .ok (.iload_n 3, 1) := by decide +kernel
theorem dX1_search_85 : decode cX1_search 85 = .ok (.invokevirtual 53, 3) := by decide +kernel
theorem dX1_search_88 : decode cX1_search 88 = .ok (.istore 4, 2) := by decide +kernel
theorem dX1_search_90 : decode cX1_search 90 = .ok (.iinc 5 1, 3) := by decide +kernel
theorem dX1_search_93 : decode cX1_search 93 = .ok (.goto (-67), 3) := by decide +kernel
theorem dX1_search_96 : decode cX1_search 96 = .ok (.return_, 1) := by decide +kernel
theorem dX1_scoreLoads_0 : decode cX1_scoreLoads 0 = .ok (.iconst 1, 1) := by decide +kernel
theorem dX1_scoreLoads_1 : decode cX1_scoreLoads 1 = .ok (.iload_n 3, 1) := by decide +kernel
theorem dX1_scoreLoads_2 : decode cX1_scoreLoads 2 = .ok (.ishl, 1) := by decide +kernel
theorem dX1_scoreLoads_3 : decode cX1_scoreLoads 3 = .ok (.iconst 1, 1) := by decide +kernel
theorem dX1_scoreLoads_4 : decode cX1_scoreLoads 4 = .ok (.isub, 1) := by decide +kernel
theorem dX1_scoreLoads_5 : decode cX1_scoreLoads 5 = .ok (.istore 4, 2) := by decide +kernel
theorem dX1_scoreLoads_7 : decode cX1_scoreLoads 7 = .ok (.iconst 0, 1) := by decide +kernel
theorem dX1_scoreLoads_8 : decode cX1_scoreLoads 8 = .ok (.istore 5, 2) := by decide +kernel
theorem dX1_scoreLoads_10 : decode cX1_scoreLoads 10 = .ok (.iload 5, 2) := by decide +kernel
theorem dX1_scoreLoads_12 : decode cX1_scoreLoads 12 = .ok (.aload_n 1, 1) := by decide +kernel
theorem dX1_scoreLoads_13 : decode cX1_scoreLoads 13 = .ok (.getfield 38, 3) := by decide +kernel
theorem dX1_scoreLoads_16 : decode cX1_scoreLoads 16 = .ok (.if_icmp .ge 63, 3) := by decide +kernel
theorem dX1_scoreLoads_19 : decode cX1_scoreLoads 19 = .ok (.aload_n 1, 1) := by decide +kernel
theorem dX1_scoreLoads_20 : decode cX1_scoreLoads 20 = .ok (.iload 5, 2) := by decide +kernel
theorem dX1_scoreLoads_22 : decode cX1_scoreLoads 22 = .ok (.invokevirtual 57, 3) := by decide +kernel
theorem dX1_scoreLoads_25 : decode cX1_scoreLoads 25 = .ok (.iload 4, 2) := by decide +kernel
theorem dX1_scoreLoads_27 : decode cX1_scoreLoads 27 = .ok (.iconst (-1), 1) := by decide +kernel
theorem dX1_scoreLoads_28 : decode cX1_scoreLoads 28 = .ok (.ixor, 1) := by decide +kernel
theorem dX1_scoreLoads_29 : decode cX1_scoreLoads 29 = .ok (.iand, 1) := by decide +kernel
theorem dX1_scoreLoads_30 : decode cX1_scoreLoads 30 = .ok (.istore 6, 2) := by decide +kernel
theorem dX1_scoreLoads_32 : decode cX1_scoreLoads 32 = .ok (.iconst 0, 1) := by decide +kernel
theorem dX1_scoreLoads_33 : decode cX1_scoreLoads 33 = .ok (.istore 7, 2) := by decide +kernel
theorem dX1_scoreLoads_35 : decode cX1_scoreLoads 35 = .ok (.iload 7, 2) := by decide +kernel
theorem dX1_scoreLoads_37 : decode cX1_scoreLoads 37 = .ok (.iload 4, 2) := by decide +kernel
theorem dX1_scoreLoads_39 : decode cX1_scoreLoads 39 = .ok (.if_icmp .gt 34, 3) := by decide +kernel
theorem dX1_scoreLoads_42 : decode cX1_scoreLoads 42 = .ok (.aload_n 0, 1) := by decide +kernel
theorem dX1_scoreLoads_43 : decode cX1_scoreLoads 43 = .ok (.getfield 25, 3) := by decide +kernel
theorem dX1_scoreLoads_46 : decode cX1_scoreLoads 46 = .ok (.iload 5, 2) := by decide +kernel
theorem dX1_scoreLoads_48 : decode cX1_scoreLoads 48 = .ok (.bipush 16, 2) := by decide +kernel
theorem dX1_scoreLoads_50 : decode cX1_scoreLoads 50 = .ok (.imul, 1) := by decide +kernel
theorem dX1_scoreLoads_51 : decode cX1_scoreLoads 51 = .ok (.iload 7, 2) := by decide +kernel
theorem dX1_scoreLoads_53 : decode cX1_scoreLoads 53 = .ok (.iadd, 1) := by decide +kernel
theorem dX1_scoreLoads_54 : decode cX1_scoreLoads 54 = .ok (.aload_n 1, 1) := by decide +kernel
theorem dX1_scoreLoads_55 : decode cX1_scoreLoads 55 = .ok (.aload_n 2, 1) := by decide +kernel
theorem dX1_scoreLoads_56 : decode cX1_scoreLoads 56 = .ok (.iload 5, 2) := by decide +kernel
theorem dX1_scoreLoads_58 : decode cX1_scoreLoads 58 = .ok (.iload 6, 2) := by decide +kernel
theorem dX1_scoreLoads_60 : decode cX1_scoreLoads 60 = .ok (.iload 7, 2) := by decide +kernel
theorem dX1_scoreLoads_62 : decode cX1_scoreLoads 62 = .ok (.ior, 1) := by decide +kernel
theorem dX1_scoreLoads_63 : decode cX1_scoreLoads 63 = .ok (.invokestatic 61, 3) := by decide +kernel
theorem dX1_scoreLoads_66 : decode cX1_scoreLoads 66 = .ok (.iastore, 1) := by decide +kernel
theorem dX1_scoreLoads_67 : decode cX1_scoreLoads 67 = .ok (.iinc 7 1, 3) := by decide +kernel
theorem dX1_scoreLoads_70 : decode cX1_scoreLoads 70 = .ok (.goto (-35), 3) := by decide +kernel
theorem dX1_scoreLoads_73 : decode cX1_scoreLoads 73 = .ok (.iinc 5 1, 3) := by decide +kernel
theorem dX1_scoreLoads_76 : decode cX1_scoreLoads 76 = .ok (.goto (-66), 3) := by decide +kernel
theorem dX1_scoreLoads_79 : decode cX1_scoreLoads 79 = .ok (.return_, 1) := by decide +kernel
theorem dX1_scoreLoad_0 : decode cX1_scoreLoad 0 = .ok (.iconst 0, 1) := by decide +kernel
theorem dX1_scoreLoad_1 : decode cX1_scoreLoad 1 = .ok (.istore 4, 2) := by decide +kernel
theorem dX1_scoreLoad_3 : decode cX1_scoreLoad 3 = .ok (.iconst 0, 1) := by decide +kernel
theorem dX1_scoreLoad_4 : decode cX1_scoreLoad 4 = .ok (.istore 5, 2) := by decide +kernel
theorem dX1_scoreLoad_6 : decode cX1_scoreLoad 6 = .ok (.iload 5, 2) := by decide +kernel
theorem dX1_scoreLoad_8 : decode cX1_scoreLoad 8 = .ok (.bipush 12, 2) := by decide +kernel
theorem dX1_scoreLoad_10 : decode cX1_scoreLoad 10 = .ok (.if_icmp .ge 47, 3) := by decide +kernel
theorem dX1_scoreLoad_13 : decode cX1_scoreLoad 13 = .ok (.aload_n 0, 1) := by decide +kernel
theorem dX1_scoreLoad_14 : decode cX1_scoreLoad 14 = .ok (.iload_n 2, 1) := by decide +kernel
theorem dX1_scoreLoad_15 : decode cX1_scoreLoad 15 = .ok (.iload 5, 2) := by decide +kernel
theorem dX1_scoreLoad_17 : decode cX1_scoreLoad 17 = .ok (.iload_n 3, 1) := by decide +kernel
theorem dX1_scoreLoad_18 : decode cX1_scoreLoad 18 = .ok (.aload_n 0, 1) := by decide +kernel
theorem dX1_scoreLoad_19 : decode cX1_scoreLoad 19 = .ok (.getfield 65, 3) := by decide +kernel
theorem dX1_scoreLoad_22 : decode cX1_scoreLoad 22 = .ok (.iload_n 2, 1) := by decide +kernel
theorem dX1_scoreLoad_23 : decode cX1_scoreLoad 23 = .ok (.aaload, 1) := by decide +kernel
theorem dX1_scoreLoad_24 : decode cX1_scoreLoad 24 = .ok (.getfield 69, 3) := by decide +kernel
theorem dX1_scoreLoad_27 : decode cX1_scoreLoad 27 = .ok (.invokevirtual 74, 3) := by decide +kernel
theorem dX1_scoreLoad_30 : decode cX1_scoreLoad 30 = .ok (.istore 6, 2) := by decide +kernel
theorem dX1_scoreLoad_32 : decode cX1_scoreLoad 32 = .ok (.aload_n 1, 1) := by decide +kernel
theorem dX1_scoreLoad_33 : decode cX1_scoreLoad 33 = .ok (.iload_n 2, 1) := by decide +kernel
theorem dX1_scoreLoad_34 : decode cX1_scoreLoad 34 = .ok (.bipush 12, 2) := by decide +kernel
theorem dX1_scoreLoad_36 : decode cX1_scoreLoad 36 = .ok (.imul, 1) := by decide +kernel
theorem dX1_scoreLoad_37 : decode cX1_scoreLoad 37 = .ok (.iload 5, 2) := by decide +kernel
theorem dX1_scoreLoad_39 : decode cX1_scoreLoad 39 = .ok (.iadd, 1) := by decide +kernel
theorem dX1_scoreLoad_40 : decode cX1_scoreLoad 40 = .ok (.invokevirtual 78, 3) := by decide +kernel
theorem dX1_scoreLoad_43 : decode cX1_scoreLoad 43 = .ok (.iload 6, 2) := by decide +kernel
theorem dX1_scoreLoad_45 : decode cX1_scoreLoad 45 = .ok (.if_icmp .ne 6, 3) := by decide +kernel
theorem dX1_scoreLoad_48 : decode cX1_scoreLoad 48 = .ok (.iinc 4 1, 3) := by decide +kernel
theorem dX1_scoreLoad_51 : decode cX1_scoreLoad 51 = .ok (.iinc 5 1, 3) := by decide +kernel
theorem dX1_scoreLoad_54 : decode cX1_scoreLoad 54 = .ok (.goto (-48), 3) := by decide +kernel
theorem dX1_scoreLoad_57 : decode cX1_scoreLoad 57 = .ok (.iload 4, 2) := by decide +kernel
theorem dX1_scoreLoad_59 : decode cX1_scoreLoad 59 = .ok (.ireturn, 1) := by decide +kernel
theorem dX1_scoreWay_0 : decode cX1_scoreWay 0 = .ok (.aload_n 0, 1) := by decide +kernel
theorem dX1_scoreWay_1 : decode cX1_scoreWay 1 = .ok (.getfield 22, 3) := by decide +kernel
theorem dX1_scoreWay_4 : decode cX1_scoreWay 4 = .ok (.iconst 0, 1) := by decide +kernel
theorem dX1_scoreWay_5 : decode cX1_scoreWay 5 = .ok (.invokestatic 32, 3) := by decide +kernel
theorem dX1_scoreWay_8 : decode cX1_scoreWay 8 = .ok (.iconst 0, 1) := by decide +kernel
theorem dX1_scoreWay_9 : decode cX1_scoreWay 9 = .ok (.istore_n 3, 1) := by decide +kernel
theorem dX1_scoreWay_10 : decode cX1_scoreWay 10 = .ok (.iload_n 3, 1) := by decide +kernel
theorem dX1_scoreWay_11 : decode cX1_scoreWay 11 = .ok (.iload_n 2, 1) := by decide +kernel
theorem dX1_scoreWay_12 : decode cX1_scoreWay 12 = .ok (.if_icmp .ge 37, 3) := by decide +kernel
theorem dX1_scoreWay_15 : decode cX1_scoreWay 15 = .ok (.aload_n 0, 1) := by decide +kernel
theorem dX1_scoreWay_16 : decode cX1_scoreWay 16 = .ok (.getfield 19, 3) := by decide +kernel
theorem dX1_scoreWay_19 : decode cX1_scoreWay 19 = .ok (.iload_n 3, 1) := by decide +kernel
theorem dX1_scoreWay_20 : decode cX1_scoreWay 20 = .ok (.iaload, 1) := by decide +kernel
theorem dX1_scoreWay_21 : decode cX1_scoreWay 21 = .ok (.ifCond .le 22, 3) := by decide +kernel
theorem dX1_scoreWay_24 : decode cX1_scoreWay 24 = .ok (.aload_n 0, 1) := by decide +kernel
theorem dX1_scoreWay_25 : decode cX1_scoreWay 25 = .ok (.getfield 22, 3) := by decide +kernel
theorem dX1_scoreWay_28 : decode cX1_scoreWay 28 = .ok (.aload_n 0, 1) := by decide +kernel
theorem dX1_scoreWay_29 : decode cX1_scoreWay 29 = .ok (.getfield 19, 3) := by decide +kernel
theorem dX1_scoreWay_32 : decode cX1_scoreWay 32 = .ok (.iload_n 3, 1) := by decide +kernel
theorem dX1_scoreWay_33 : decode cX1_scoreWay 33 = .ok (.iaload, 1) := by decide +kernel
theorem dX1_scoreWay_34 : decode cX1_scoreWay 34 = .ok (.iconst 1, 1) := by decide +kernel
theorem dX1_scoreWay_35 : decode cX1_scoreWay 35 = .ok (.isub, 1) := by decide +kernel
theorem dX1_scoreWay_36 : decode cX1_scoreWay 36 = .ok (.dup2, 1) := by decide +kernel
theorem dX1_scoreWay_37 : decode cX1_scoreWay 37 = .ok (.iaload, 1) := by decide +kernel
theorem dX1_scoreWay_38 : decode cX1_scoreWay 38 = .ok (.iconst 1, 1) := by decide +kernel
theorem dX1_scoreWay_39 : decode cX1_scoreWay 39 = .ok (.iload_n 3, 1) := by decide +kernel
theorem dX1_scoreWay_40 : decode cX1_scoreWay 40 = .ok (.ishl, 1) := by decide +kernel
theorem dX1_scoreWay_41 : decode cX1_scoreWay 41 = .ok (.ior, 1) := by decide +kernel
theorem dX1_scoreWay_42 : decode cX1_scoreWay 42 = .ok (.iastore, 1) := by decide +kernel
theorem dX1_scoreWay_43 : decode cX1_scoreWay 43 = .ok (.iinc 3 1, 3) := by decide +kernel
theorem dX1_scoreWay_46 : decode cX1_scoreWay 46 = .ok (.goto (-36), 3) := by decide +kernel
theorem dX1_scoreWay_49 : decode cX1_scoreWay 49 = .ok (.iconst 0, 1) := by decide +kernel
theorem dX1_scoreWay_50 : decode cX1_scoreWay 50 = .ok (.istore_n 3, 1) := by decide +kernel
theorem dX1_scoreWay_51 : decode cX1_scoreWay 51 = .ok (.iconst 0, 1) := by decide +kernel
theorem dX1_scoreWay_52 : decode cX1_scoreWay 52 = .ok (.istore 4, 2) := by decide +kernel
theorem dX1_scoreWay_54 : decode cX1_scoreWay 54 = .ok (.iload 4, 2) := by decide +kernel
theorem dX1_scoreWay_56 : decode cX1_scoreWay 56 = .ok (.iload_n 1, 1) := by decide +kernel
theorem dX1_scoreWay_57 : decode cX1_scoreWay 57 = .ok (.if_icmp .ge 30, 3) := by decide +kernel
theorem dX1_scoreWay_60 : decode cX1_scoreWay 60 = .ok (.iload_n 3, 1) := by decide +kernel
theorem dX1_scoreWay_61 : decode cX1_scoreWay 61 = .ok (.aload_n 0, 1) := by decide +kernel
theorem dX1_scoreWay_62 : decode cX1_scoreWay 62 = .ok (.getfield 25, 3) := by decide +kernel
theorem dX1_scoreWay_65 : decode cX1_scoreWay 65 = .ok (.iload 4, 2) := by decide +kernel
theorem dX1_scoreWay_67 : decode cX1_scoreWay 67 = .ok (.bipush 16, 2) := by decide +kernel
theorem dX1_scoreWay_69 : decode cX1_scoreWay 69 = .ok (.imul, 1) := by decide +kernel
theorem dX1_scoreWay_70 : decode cX1_scoreWay 70 = .ok (.aload_n 0, 1) := by decide +kernel
theorem dX1_scoreWay_71 : decode cX1_scoreWay 71 = .ok (.getfield 22, 3) := by decide +kernel
theorem dX1_scoreWay_74 : decode cX1_scoreWay 74 = .ok (.iload 4, 2) := by decide +kernel
theorem dX1_scoreWay_76 : decode cX1_scoreWay 76 = .ok (.iaload, 1) := by decide +kernel
theorem dX1_scoreWay_77 : decode cX1_scoreWay 77 = .ok (.iadd, 1) := by decide +kernel
theorem dX1_scoreWay_78 : decode cX1_scoreWay 78 = .ok (.iaload, 1) := by decide +kernel
theorem dX1_scoreWay_79 : decode cX1_scoreWay 79 = .ok (.iadd, 1) := by decide +kernel
theorem dX1_scoreWay_80 : decode cX1_scoreWay 80 = .ok (.istore_n 3, 1) := by decide +kernel
theorem dX1_scoreWay_81 : decode cX1_scoreWay 81 = .ok (.iinc 4 1, 3) := by decide +kernel
theorem dX1_scoreWay_84 : decode cX1_scoreWay 84 = .ok (.goto (-30), 3) := by decide +kernel
theorem dX1_scoreWay_87 : decode cX1_scoreWay 87 = .ok (.iload_n 3, 1) := by decide +kernel
theorem dX1_scoreWay_88 : decode cX1_scoreWay 88 = .ok (.ireturn, 1) := by decide +kernel
theorem dX1_advance_0 : decode cX1_advance 0 = .ok (.iload_n 2, 1) := by decide +kernel
theorem dX1_advance_1 : decode cX1_advance 1 = .ok (.iconst 1, 1) := by decide +kernel
theorem dX1_advance_2 : decode cX1_advance 2 = .ok (.isub, 1) := by decide +kernel
theorem dX1_advance_3 : decode cX1_advance 3 = .ok (.istore_n 3, 1) := by decide +kernel
theorem dX1_advance_4 : decode cX1_advance 4 = .ok (.iload_n 3, 1) := by decide +kernel
theorem dX1_advance_5 : decode cX1_advance 5 = .ok (.ifCond .lt 38, 3) := by decide +kernel
theorem dX1_advance_8 : decode cX1_advance 8 = .ok (.aload_n 0, 1) := by decide +kernel
theorem dX1_advance_9 : decode cX1_advance 9 = .ok (.getfield 19, 3) := by decide +kernel
theorem dX1_advance_12 : decode cX1_advance 12 = .ok (.iload_n 3, 1) := by decide +kernel
theorem dX1_advance_13 : decode cX1_advance 13 = .ok (.iaload, 1) := by decide +kernel
theorem dX1_advance_14 : decode cX1_advance 14 = .ok (.iload_n 1, 1) := by decide +kernel
theorem dX1_advance_15 : decode cX1_advance 15 = .ok (.if_icmp .ge 15, 3) := by decide +kernel
theorem dX1_advance_18 : decode cX1_advance 18 = .ok (.aload_n 0, 1) := by decide +kernel
theorem dX1_advance_19 : decode cX1_advance 19 = .ok (.getfield 19, 3) := by decide +kernel
theorem dX1_advance_22 : decode cX1_advance 22 = .ok (.iload_n 3, 1) := by decide +kernel
theorem dX1_advance_23 : decode cX1_advance 23 = .ok (.dup2, 1) := by decide +kernel
theorem dX1_advance_24 : decode cX1_advance 24 = .ok (.iaload, 1) := by decide +kernel
theorem dX1_advance_25 : decode cX1_advance 25 = .ok (.iconst 1, 1) := by decide +kernel
theorem dX1_advance_26 : decode cX1_advance 26 = .ok (.iadd, 1) := by decide +kernel
theorem dX1_advance_27 : decode cX1_advance 27 = .ok (.iastore, 1) := by decide +kernel
theorem dX1_advance_28 : decode cX1_advance 28 = .ok (.iconst 1, 1) := by decide +kernel
theorem dX1_advance_29 : decode cX1_advance 29 = .ok (.ireturn, 1) := by decide +kernel
theorem dX1_advance_30 : decode cX1_advance 30 = .ok (.aload_n 0, 1) := by decide +kernel
theorem dX1_advance_31 : decode cX1_advance 31 = .ok (.getfield 19, 3) := by decide +kernel
theorem dX1_advance_34 : decode cX1_advance 34 = .ok (.iload_n 3, 1) := by decide +kernel
theorem dX1_advance_35 : decode cX1_advance 35 = .ok (.iconst 0, 1) := by decide +kernel
theorem dX1_advance_36 : decode cX1_advance 36 = .ok (.iastore, 1) := by decide +kernel
theorem dX1_advance_37 : decode cX1_advance 37 = .ok (.iinc 3 (-1), 3) := by decide +kernel
theorem dX1_advance_40 : decode cX1_advance 40 = .ok (.goto (-36), 3) := by decide +kernel
theorem dX1_advance_43 : decode cX1_advance 43 = .ok (.iconst 0, 1) := by decide +kernel
theorem dX1_advance_44 : decode cX1_advance 44 = .ok (.ireturn, 1) := by decide +kernel
theorem dX2_init_0 : decode cX2_init 0 = .ok (.aload_n 0, 1) := by decide +kernel
theorem dX2_init_1 : decode cX2_init 1 = .ok (.invokespecial 3, 3) := by decide +kernel
theorem dX2_init_4 : decode cX2_init 4 = .ok (.aload_n 0, 1) := by decide +kernel
theorem dX2_init_5 : decode cX2_init 5 = .ok (.bipush 12, 2) := by decide +kernel
theorem dX2_init_7 : decode cX2_init 7 = .ok (.newarray .int, 2) := by decide +kernel
theorem dX2_init_9 : decode cX2_init 9 = .ok (.putfield 9, 3) := by decide +kernel
theorem dX2_init_12 : decode cX2_init 12 = .ok (.aload_n 0, 1) := by decide +kernel
theorem dX2_init_13 : decode cX2_init 13 = .ok (.bipush 12, 2) := by decide +kernel
theorem dX2_init_15 : decode cX2_init 15 = .ok (.newarray .int, 2) := by decide +kernel
theorem dX2_init_17 : decode cX2_init 17 = .ok (.putfield 15, 3) := by decide +kernel
theorem dX2_init_20 : decode cX2_init 20 = .ok (.aload_n 0, 1) := by decide +kernel
theorem dX2_init_21 : decode cX2_init 21 = .ok (.iconst 0, 1) := by decide +kernel
theorem dX2_init_22 : decode cX2_init 22 = .ok (.putfield 18, 3) := by decide +kernel
theorem dX2_init_25 : decode cX2_init 25 = .ok (.aload_n 0, 1) := by decide +kernel
theorem dX2_init_26 : decode cX2_init 26 = .ok (.iconst 0, 1) := by decide +kernel
theorem dX2_init_27 : decode cX2_init 27 = .ok (.putfield 22, 3) := by decide +kernel
theorem dX2_init_30 : decode cX2_init 30 = .ok (.aload_n 0, 1) := by decide +kernel
theorem dX2_init_31 : decode cX2_init 31 = .ok (.iconst (-1), 1) := by decide +kernel
theorem dX2_init_32 : decode cX2_init 32 = .ok (.putfield 25, 3) := by decide +kernel
theorem dX2_init_35 : decode cX2_init 35 = .ok (.return_, 1) := by decide +kernel
theorem dX2_start_0 : decode cX2_start 0 = .ok (.aload_n 0, 1) := by decide +kernel
theorem dX2_start_1 : decode cX2_start 1 = .ok (.iload_n 1, 1) := by decide +kernel
theorem dX2_start_2 : decode cX2_start 2 = .ok (.putfield 18, 3) := by decide +kernel
theorem dX2_start_5 : decode cX2_start 5 = .ok (.aload_n 0, 1) := by decide +kernel
theorem dX2_start_6 : decode cX2_start 6 = .ok (.iload_n 2, 1) := by decide +kernel
theorem dX2_start_7 : decode cX2_start 7 = .ok (.putfield 22, 3) := by decide +kernel
theorem dX2_start_10 : decode cX2_start 10 = .ok (.aload_n 0, 1) := by decide +kernel
theorem dX2_start_11 : decode cX2_start 11 = .ok (.iconst (-1), 1) := by decide +kernel
theorem dX2_start_12 : decode cX2_start 12 = .ok (.putfield 25, 3) := by decide +kernel
theorem dX2_start_15 : decode cX2_start 15 = .ok (.aload_n 0, 1) := by decide +kernel
theorem dX2_start_16 : decode cX2_start 16 = .ok (.getfield 9, 3) := by decide +kernel
theorem dX2_start_19 : decode cX2_start 19 = .ok (.iconst 0, 1) := by decide +kernel
theorem dX2_start_20 : decode cX2_start 20 = .ok (.invokestatic 28, 3) := by decide +kernel
theorem dX2_start_23 : decode cX2_start 23 = .ok (.aload_n 0, 1) := by decide +kernel
theorem dX2_start_24 : decode cX2_start 24 = .ok (.getfield 15, 3) := by decide +kernel
theorem dX2_start_27 : decode cX2_start 27 = .ok (.iconst 0, 1) := by decide +kernel
theorem dX2_start_28 : decode cX2_start 28 = .ok (.invokestatic 28, 3) := by decide +kernel
theorem dX2_start_31 : decode cX2_start 31 = .ok (.return_, 1) := by decide +kernel
theorem dX2_take_0 : decode cX2_take 0 = .ok (.aload_n 0, 1) := by decide +kernel
theorem dX2_take_1 : decode cX2_take 1 = .ok (.aload_n 1, 1) := by decide +kernel
theorem dX2_take_2 : decode cX2_take 2 = .ok (.getfield 18, 3) := by decide +kernel
theorem dX2_take_5 : decode cX2_take 5 = .ok (.putfield 18, 3) := by decide +kernel
theorem dX2_take_8 : decode cX2_take 8 = .ok (.aload_n 0, 1) := by decide +kernel
theorem dX2_take_9 : decode cX2_take 9 = .ok (.aload_n 1, 1) := by decide +kernel
theorem dX2_take_10 : decode cX2_take 10 = .ok (.getfield 22, 3) := by decide +kernel
theorem dX2_take_13 : decode cX2_take 13 = .ok (.putfield 22, 3) := by decide +kernel
theorem dX2_take_16 : decode cX2_take 16 = .ok (.aload_n 0, 1) := by decide +kernel
theorem dX2_take_17 : decode cX2_take 17 = .ok (.aload_n 1, 1) := by decide +kernel
theorem dX2_take_18 : decode cX2_take 18 = .ok (.getfield 25, 3) := by decide +kernel
theorem dX2_take_21 : decode cX2_take 21 = .ok (.putfield 25, 3) := by decide +kernel
theorem dX2_take_24 : decode cX2_take 24 = .ok (.aload_n 1, 1) := by decide +kernel
theorem dX2_take_25 : decode cX2_take 25 = .ok (.getfield 9, 3) := by decide +kernel
theorem dX2_take_28 : decode cX2_take 28 = .ok (.iconst 0, 1) := by decide +kernel
theorem dX2_take_29 : decode cX2_take 29 = .ok (.aload_n 0, 1) := by decide +kernel
theorem dX2_take_30 : decode cX2_take 30 = .ok (.getfield 9, 3) := by decide +kernel
theorem dX2_take_33 : decode cX2_take 33 = .ok (.iconst 0, 1) := by decide +kernel
theorem dX2_take_34 : decode cX2_take 34 = .ok (.bipush 12, 2) := by decide +kernel
theorem dX2_take_36 : decode cX2_take 36 = .ok (.invokestatic 34, 3) := by decide +kernel
theorem dX2_take_39 : decode cX2_take 39 = .ok (.aload_n 1, 1) := by decide +kernel
theorem dX2_take_40 : decode cX2_take 40 = .ok (.getfield 15, 3) := by decide +kernel
theorem dX2_take_43 : decode cX2_take 43 = .ok (.iconst 0, 1) := by decide +kernel
theorem dX2_take_44 : decode cX2_take 44 = .ok (.aload_n 0, 1) := by decide +kernel
theorem dX2_take_45 : decode cX2_take 45 = .ok (.getfield 15, 3) := by decide +kernel
theorem dX2_take_48 : decode cX2_take 48 = .ok (.iconst 0, 1) := by decide +kernel
theorem dX2_take_49 : decode cX2_take 49 = .ok (.bipush 12, 2) := by decide +kernel
theorem dX2_take_51 : decode cX2_take 51 = .ok (.invokestatic 34, 3) := by decide +kernel
theorem dX2_take_54 : decode cX2_take 54 = .ok (.return_, 1) := by decide +kernel
theorem dX2_isA_0 : decode cX2_isA 0 = .ok (.aload_n 0, 1) := by decide +kernel
theorem dX2_isA_1 : decode cX2_isA 1 = .ok (.getfield 18, 3) := by decide +kernel
theorem dX2_isA_4 : decode cX2_isA 4 = .ok (.istore_n 2, 1) := by decide +kernel
theorem dX2_isA_5 : decode cX2_isA 5 = .ok (.iconst 0, 1) := by decide +kernel
theorem dX2_isA_6 : decode cX2_isA 6 = .ok (.istore_n 3, 1) := by decide +kernel
theorem dX2_isA_7 : decode cX2_isA 7 = .ok (.iload_n 3, 1) := by decide +kernel
theorem dX2_isA_8 : decode cX2_isA 8 = .ok (.bipush 7, 2) := by decide +kernel
theorem dX2_isA_10 : decode cX2_isA 10 = .ok (.if_icmp .ge 27, 3) := by decide +kernel
theorem dX2_isA_13 : decode cX2_isA 13 = .ok (.iload_n 2, 1) := by decide +kernel
theorem dX2_isA_14 : decode cX2_isA 14 = .ok (.iconst (-1), 1) := by decide +kernel
theorem dX2_isA_15 : decode cX2_isA 15 = .ok (.if_icmp .eq 22, 3) := by decide +kernel
theorem dX2_isA_18 : decode cX2_isA 18 = .ok (.iload_n 2, 1) := by decide +kernel
theorem dX2_isA_19 : decode cX2_isA 19 = .ok (.iload_n 1, 1) := by decide +kernel
theorem dX2_isA_20 : decode cX2_isA 20 = .ok (.if_icmp .ne 5, 3) := by decide +kernel
theorem dX2_isA_23 : decode cX2_isA 23 = .ok (.iconst 1, 1) := by decide +kernel
theorem dX2_isA_24 : decode cX2_isA 24 = .ok (.ireturn, 1) := by decide +kernel
theorem dX2_isA_25 : decode cX2_isA 25 = .ok (.getstatic 40, 3) := by decide +kernel
theorem dX2_isA_28 : decode cX2_isA 28 = .ok (.iload_n 2, 1) := by decide +kernel
theorem dX2_isA_29 : decode cX2_isA 29 = .ok (.iaload, 1) := by decide +kernel
theorem dX2_isA_30 : decode cX2_isA 30 = .ok (.istore_n 2, 1) := by decide +kernel
theorem dX2_isA_31 : decode cX2_isA 31 = .ok (.iinc 3 1, 3) := by decide +kernel
theorem dX2_isA_34 : decode cX2_isA 34 = .ok (.goto (-27), 3) := by decide +kernel
theorem dX2_isA_37 : decode cX2_isA 37 = .ok (.iconst 0, 1) := by decide +kernel
theorem dX2_isA_38 : decode cX2_isA 38 = .ok (.ireturn, 1) := by decide +kernel
theorem dX2_canGo_0 : decode cX2_canGo 0 = .ok (.aload_n 0, 1) := by decide +kernel
theorem dX2_canGo_1 : decode cX2_canGo 1 = .ok (.getfield 18, 3) := by decide +kernel
theorem dX2_canGo_4 : decode cX2_canGo 4 = .ok (.iconst 1, 1) := by decide +kernel
theorem dX2_canGo_5 : decode cX2_canGo 5 = .ok (.if_icmp .eq 20, 3) := by decide +kernel
theorem dX2_canGo_8 : decode cX2_canGo 8 = .ok (.aload_n 0, 1) := by decide +kernel
theorem dX2_canGo_9 : decode cX2_canGo 9 = .ok (.getfield 18, 3) := by decide +kernel
theorem dX2_canGo_12 : decode cX2_canGo 12 = .ok (.iconst 3, 1) := by decide +kernel
theorem dX2_canGo_13 : decode cX2_canGo 13 = .ok (.if_icmp .eq 12, 3) := by decide +kernel
theorem dX2_canGo_16 : decode cX2_canGo 16 = .ok (.aload_n 0, 1) := by decide +kernel
theorem dX2_canGo_17 : decode cX2_canGo 17 = .ok (.getfield 18, 3) := by decide +kernel
theorem dX2_canGo_20 : decode cX2_canGo 20 = .ok (.bipush 6, 2) := by decide +kernel
theorem dX2_canGo_22 : decode cX2_canGo 22 = .ok (.if_icmp .ne 7, 3) := by decide +kernel
theorem dX2_canGo_25 : decode cX2_canGo 25 = .ok (.iconst 1, 1) := by decide +kernel
theorem dX2_canGo_26 : decode cX2_canGo 26 = .ok (.goto 4, 3) := by decide +kernel
theorem dX2_canGo_29 : decode cX2_canGo 29 = .ok (.iconst 0, 1) := by decide +kernel
theorem dX2_canGo_30 : decode cX2_canGo 30 = .ok (.ireturn, 1) := by decide +kernel
theorem dX2_learnsOnce_0 : decode cX2_learnsOnce 0 = .ok (.aload_n 0, 1) := by decide +kernel
theorem dX2_learnsOnce_1 : decode cX2_learnsOnce 1 = .ok (.getfield 18, 3) := by decide +kernel
theorem dX2_learnsOnce_4 : decode cX2_learnsOnce 4 = .ok (.iconst 4, 1) := by decide +kernel
theorem dX2_learnsOnce_5 : decode cX2_learnsOnce 5 = .ok (.if_icmp .eq 12, 3) := by decide +kernel
theorem dX2_learnsOnce_8 : decode cX2_learnsOnce 8 = .ok (.aload_n 0, 1) := by decide +kernel
theorem dX2_learnsOnce_9 : decode cX2_learnsOnce 9 = .ok (.getfield 18, 3) := by decide +kernel
theorem dX2_learnsOnce_12 : decode cX2_learnsOnce 12 = .ok (.bipush 6, 2) := by decide +kernel
theorem dX2_learnsOnce_14 : decode cX2_learnsOnce 14 = .ok (.if_icmp .ne 7, 3) := by decide +kernel
theorem dX2_learnsOnce_17 : decode cX2_learnsOnce 17 = .ok (.iconst 1, 1) := by decide +kernel
theorem dX2_learnsOnce_18 : decode cX2_learnsOnce 18 = .ok (.goto 4, 3) := by decide +kernel
theorem dX2_learnsOnce_21 : decode cX2_learnsOnce 21 = .ok (.iconst 0, 1) := by decide +kernel
theorem dX2_learnsOnce_22 : decode cX2_learnsOnce 22 = .ok (.ireturn, 1) := by decide +kernel
theorem dX2_step_0 : decode cX2_step 0 = .ok (.getstatic 43, 3) := by decide +kernel
theorem dX2_step_3 : decode cX2_step 3 = .ok (.aload_n 0, 1) := by decide +kernel
theorem dX2_step_4 : decode cX2_step 4 = .ok (.getfield 18, 3) := by decide +kernel
theorem dX2_step_7 : decode cX2_step 7 = .ok (.iaload, 1) := by decide +kernel
theorem dX2_step_8 : decode cX2_step 8 = .ok (.ireturn, 1) := by decide +kernel
theorem dX2_accustom_0 : decode cX2_accustom 0 = .ok (.aload_n 0, 1) := by decide +kernel
theorem dX2_accustom_1 : decode cX2_accustom 1 = .ok (.getfield 9, 3) := by decide +kernel
theorem dX2_accustom_4 : decode cX2_accustom 4 = .ok (.iload_n 1, 1) := by decide +kernel
theorem dX2_accustom_5 : decode cX2_accustom 5 = .ok (.iload_n 2, 1) := by decide +kernel
theorem dX2_accustom_6 : decode cX2_accustom 6 = .ok (.iastore, 1) := by decide +kernel
theorem dX2_accustom_7 : decode cX2_accustom 7 = .ok (.aload_n 0, 1) := by decide +kernel
theorem dX2_accustom_8 : decode cX2_accustom 8 = .ok (.getfield 15, 3) := by decide +kernel
theorem dX2_accustom_11 : decode cX2_accustom 11 = .ok (.iload_n 1, 1) := by decide +kernel
theorem dX2_accustom_12 : decode cX2_accustom 12 = .ok (.iload_n 3, 1) := by decide +kernel
theorem dX2_accustom_13 : decode cX2_accustom 13 = .ok (.iastore, 1) := by decide +kernel
theorem dX2_accustom_14 : decode cX2_accustom 14 = .ok (.return_, 1) := by decide +kernel
theorem dX2_learn_0 : decode cX2_learn 0 = .ok (.iload_n 2, 1) := by decide +kernel
theorem dX2_learn_1 : decode cX2_learn 1 = .ok (.ifCond .eq 19, 3) := by decide +kernel
theorem dX2_learn_4 : decode cX2_learn 4 = .ok (.aload_n 0, 1) := by decide +kernel
theorem dX2_learn_5 : decode cX2_learn 5 = .ok (.invokevirtual 46, 3) := by decide +kernel
theorem dX2_learn_8 : decode cX2_learn 8 = .ok (.ifCond .eq 14, 3) := by decide +kernel
theorem dX2_learn_11 : decode cX2_learn 11 = .ok (.aload_n 0, 1) := by decide +kernel
theorem dX2_learn_12 : decode cX2_learn 12 = .ok (.getfield 9, 3) := by decide +kernel
theorem dX2_learn_15 : decode cX2_learn 15 = .ok (.iload_n 1, 1) := by decide +kernel
theorem dX2_learn_16 : decode cX2_learn 16 = .ok (.iaload, 1) := by decide +kernel
theorem dX2_learn_17 : decode cX2_learn 17 = .ok (.ifCond .eq 5, 3) := by decide +kernel
theorem dX2_learn_20 : decode cX2_learn 20 = .ok (.iconst 0, 1) := by decide +kernel
theorem dX2_learn_21 : decode cX2_learn 21 = .ok (.ireturn, 1) := by decide +kernel
theorem dX2_learn_22 : decode cX2_learn 22 = .ok (.aload_n 0, 1) := by decide +kernel
theorem dX2_learn_23 : decode cX2_learn 23 = .ok (.getfield 15, 3) := by decide +kernel
theorem dX2_learn_26 : decode cX2_learn 26 = .ok (.iload_n 1, 1) := by decide +kernel
theorem dX2_learn_27 : decode cX2_learn 27 = .ok (.iaload, 1) := by decide +kernel
theorem dX2_learn_28 : decode cX2_learn 28 = .ok (.istore_n 3, 1) := by decide +kernel
theorem dX2_learn_29 : decode cX2_learn 29 = .ok (.aload_n 0, 1) := by decide +kernel
theorem dX2_learn_30 : decode cX2_learn 30 = .ok (.getfield 9, 3) := by decide +kernel
theorem dX2_learn_33 : decode cX2_learn 33 = .ok (.iload_n 1, 1) := by decide +kernel
theorem dX2_learn_34 : decode cX2_learn 34 = .ok (.iaload, 1) := by decide +kernel
theorem dX2_learn_35 : decode cX2_learn 35 = .ok (.iload_n 2, 1) := by decide +kernel
theorem dX2_learn_36 : decode cX2_learn 36 = .ok (.if_icmp .ne 36, 3) := by decide +kernel
theorem dX2_learn_39 : decode cX2_learn 39 = .ok (.aload_n 0, 1) := by decide +kernel
theorem dX2_learn_40 : decode cX2_learn 40 = .ok (.getfield 15, 3) := by decide +kernel
theorem dX2_learn_43 : decode cX2_learn 43 = .ok (.iload_n 1, 1) := by decide +kernel
theorem dX2_learn_44 : decode cX2_learn 44 = .ok (.bipush 9, 2) := by decide +kernel
theorem dX2_learn_46 : decode cX2_learn 46 = .ok (.iload_n 3, 1) := by decide +kernel
theorem dX2_learn_47 : decode cX2_learn 47 = .ok (.aload_n 0, 1) := by decide +kernel
theorem dX2_learn_48 : decode cX2_learn 48 = .ok (.invokevirtual 50, 3) := by decide +kernel
theorem dX2_learn_51 : decode cX2_learn 51 = .ok (.iadd, 1) := by decide +kernel
theorem dX2_learn_52 : decode cX2_learn 52 = .ok (.invokestatic 54, 3) := by decide +kernel
theorem dX2_learn_55 : decode cX2_learn 55 = .ok (.iastore, 1) := by decide +kernel
theorem dX2_learn_56 : decode cX2_learn 56 = .ok (.aload_n 0, 1) := by decide +kernel
theorem dX2_learn_57 : decode cX2_learn 57 = .ok (.getfield 15, 3) := by decide +kernel
theorem dX2_learn_60 : decode cX2_learn 60 = .ok (.iload_n 1, 1) := by decide +kernel
theorem dX2_learn_61 : decode cX2_learn 61 = .ok (.iaload, 1) := by decide +kernel
theorem dX2_learn_62 : decode cX2_learn 62 = .ok (.iload_n 3, 1) := by decide +kernel
theorem dX2_learn_63 : decode cX2_learn 63 = .ok (.if_icmp .eq 7, 3) := by decide +kernel
theorem dX2_learn_66 : decode cX2_learn 66 = .ok (.iconst 1, 1) := by decide +kernel
theorem dX2_learn_67 : decode cX2_learn 67 = .ok (.goto 4, 3) := by decide +kernel
theorem dX2_learn_70 : decode cX2_learn 70 = .ok (.iconst 0, 1) := by decide +kernel
theorem dX2_learn_71 : decode cX2_learn 71 = .ok (.ireturn, 1) := by decide +kernel
theorem dX2_learn_72 : decode cX2_learn 72 = .ok (.iload_n 3, 1) := by decide +kernel
theorem dX2_learn_73 : decode cX2_learn 73 = .ok (.aload_n 0, 1) := by decide +kernel
theorem dX2_learn_74 : decode cX2_learn 74 = .ok (.invokevirtual 50, 3) := by decide +kernel
theorem dX2_learn_77 : decode cX2_learn 77 = .ok (.if_icmp .le 18, 3) := by decide +kernel
theorem dX2_learn_80 : decode cX2_learn 80 = .ok (.aload_n 0, 1) := by decide +kernel
theorem dX2_learn_81 : decode cX2_learn 81 = .ok (.getfield 15, 3) := by decide +kernel
theorem dX2_learn_84 : decode cX2_learn 84 = .ok (.iload_n 1, 1) := by decide +kernel
theorem dX2_learn_85 : decode cX2_learn 85 = .ok (.iload_n 3, 1) := by decide +kernel
theorem dX2_learn_86 : decode cX2_learn 86 = .ok (.aload_n 0, 1) := by decide +kernel
theorem dX2_learn_87 : decode cX2_learn 87 = .ok (.invokevirtual 50, 3) := by decide +kernel
theorem dX2_learn_90 : decode cX2_learn 90 = .ok (.isub, 1) := by decide +kernel
theorem dX2_learn_91 : decode cX2_learn 91 = .ok (.iastore, 1) := by decide +kernel
theorem dX2_learn_92 : decode cX2_learn 92 = .ok (.goto 22, 3) := by decide +kernel
theorem dX2_learn_95 : decode cX2_learn 95 = .ok (.aload_n 0, 1) := by decide +kernel
theorem dX2_learn_96 : decode cX2_learn 96 = .ok (.iload_n 1, 1) := by decide +kernel
theorem dX2_learn_97 : decode cX2_learn 97 = .ok (.iload_n 2, 1) := by decide +kernel
theorem dX2_learn_98 : decode cX2_learn 98 = .ok (.aload_n 0, 1) := by decide +kernel
theorem dX2_learn_99 : decode cX2_learn 99 = .ok (.invokevirtual 46, 3) := by decide +kernel
theorem dX2_learn_102 : decode cX2_learn 102 = .ok (.ifCond .eq 8, 3) := by decide +kernel
theorem dX2_learn_105 : decode cX2_learn 105 = .ok (.bipush 9, 2) := by decide +kernel
theorem dX2_learn_107 : decode cX2_learn 107 = .ok (.goto 4, 3) := by decide +kernel
theorem dX2_learn_110 : decode cX2_learn 110 = .ok (.iconst 1, 1) := by decide +kernel
theorem dX2_learn_111 : decode cX2_learn 111 = .ok (.invokevirtual 60, 3) := by decide +kernel
theorem dX2_learn_114 : decode cX2_learn 114 = .ok (.iconst 1, 1) := by decide +kernel
theorem dX2_learn_115 : decode cX2_learn 115 = .ok (.ireturn, 1) := by decide +kernel
theorem dX2_learnDay_0 : decode cX2_learnDay 0 = .ok (.iconst 0, 1) := by decide +kernel
theorem dX2_learnDay_1 : decode cX2_learnDay 1 = .ok (.istore_n 2, 1) := by decide +kernel
theorem dX2_learnDay_2 : decode cX2_learnDay 2 = .ok (.iload_n 2, 1) := by decide +kernel
theorem dX2_learnDay_3 : decode cX2_learnDay 3 = .ok (.bipush 12, 2) := by decide +kernel
theorem dX2_learnDay_5 : decode cX2_learnDay 5 = .ok (.if_icmp .ge 20, 3) := by decide +kernel
theorem dX2_learnDay_8 : decode cX2_learnDay 8 = .ok (.aload_n 0, 1) := by decide +kernel
theorem dX2_learnDay_9 : decode cX2_learnDay 9 = .ok (.iload_n 2, 1) := by decide +kernel
theorem dX2_learnDay_10 : decode cX2_learnDay 10 = .ok (.aload_n 1, 1) := by decide +kernel
theorem dX2_learnDay_11 : decode cX2_learnDay 11 = .ok (.iload_n 2, 1) := by decide +kernel
theorem dX2_learnDay_12 : decode cX2_learnDay 12 = .ok (.invokevirtual 64, 3) := by decide +kernel
theorem dX2_learnDay_15 : decode cX2_learnDay 15 = .ok (.invokevirtual 70, 3) := by decide +kernel
theorem dX2_learnDay_18 : decode cX2_learnDay 18 = .ok (.pop, 1) := by decide +kernel
theorem dX2_learnDay_19 : decode cX2_learnDay 19 = .ok (.iinc 2 1, 3) := by decide +kernel
theorem dX2_learnDay_22 : decode cX2_learnDay 22 = .ok (.goto (-20), 3) := by decide +kernel
theorem dX2_learnDay_25 : decode cX2_learnDay 25 = .ok (.return_, 1) := by decide +kernel
theorem dX2_hasLearnt_0 : decode cX2_hasLearnt 0 = .ok (.iconst 0, 1) := by decide +kernel
theorem dX2_hasLearnt_1 : decode cX2_hasLearnt 1 = .ok (.istore_n 2, 1) := by decide +kernel
theorem dX2_hasLearnt_2 : decode cX2_hasLearnt 2 = .ok (.iload_n 2, 1) := by decide +kernel
theorem dX2_hasLearnt_3 : decode cX2_hasLearnt 3 = .ok (.bipush 12, 2) := by decide +kernel
theorem dX2_hasLearnt_5 : decode cX2_hasLearnt 5 = .ok (.if_icmp .ge 31, 3) := by decide +kernel
theorem dX2_hasLearnt_8 : decode cX2_hasLearnt 8 = .ok (.aload_n 1, 1) := by decide +kernel
theorem dX2_hasLearnt_9 : decode cX2_hasLearnt 9 = .ok (.iload_n 2, 1) := by decide +kernel
theorem dX2_hasLearnt_10 : decode cX2_hasLearnt 10 = .ok (.invokevirtual 64, 3) := by decide +kernel
theorem dX2_hasLearnt_13 : decode cX2_hasLearnt 13 = .ok (.istore_n 3, 1) := by decide +kernel
theorem dX2_hasLearnt_14 : decode cX2_hasLearnt 14 = .ok (.iload_n 3, 1) := by decide +kernel
theorem dX2_hasLearnt_15 : decode cX2_hasLearnt 15 = .ok (.ifCond .eq 15, 3) := by decide +kernel
theorem dX2_hasLearnt_18 : decode cX2_hasLearnt 18 = .ok (.aload_n 0, 1) := by decide +kernel
theorem dX2_hasLearnt_19 : decode cX2_hasLearnt 19 = .ok (.getfield 9, 3) := by decide +kernel
theorem dX2_hasLearnt_22 : decode cX2_hasLearnt 22 = .ok (.iload_n 2, 1) := by decide +kernel
theorem dX2_hasLearnt_23 : decode cX2_hasLearnt 23 = .ok (.iaload, 1) := by decide +kernel
theorem dX2_hasLearnt_24 : decode cX2_hasLearnt 24 = .ok (.iload_n 3, 1) := by decide +kernel
theorem dX2_hasLearnt_25 : decode cX2_hasLearnt 25 = .ok (.if_icmp .eq 5, 3) := by decide +kernel
theorem dX2_hasLearnt_28 : decode cX2_hasLearnt 28 = .ok (.iconst 0, 1) := by decide +kernel
theorem dX2_hasLearnt_29 : decode cX2_hasLearnt 29 = .ok (.ireturn, 1) := by decide +kernel
theorem dX2_hasLearnt_30 : decode cX2_hasLearnt 30 = .ok (.iinc 2 1, 3) := by decide +kernel
theorem dX2_hasLearnt_33 : decode cX2_hasLearnt 33 = .ok (.goto (-31), 3) := by decide +kernel
theorem dX2_hasLearnt_36 : decode cX2_hasLearnt 36 = .ok (.iconst 1, 1) := by decide +kernel
theorem dX2_hasLearnt_37 : decode cX2_hasLearnt 37 = .ok (.ireturn, 1) := by decide +kernel
theorem dX2_launder_0 : decode cX2_launder 0 = .ok (.iconst 0, 1) := by decide +kernel
theorem dX2_launder_1 : decode cX2_launder 1 = .ok (.istore_n 1, 1) := by decide +kernel
theorem dX2_launder_2 : decode cX2_launder 2 = .ok (.iload_n 1, 1) := by decide +kernel
theorem dX2_launder_3 : decode cX2_launder 3 = .ok (.bipush 12, 2) := by decide +kernel
theorem dX2_launder_5 : decode cX2_launder 5 = .ok (.if_icmp .ge 46, 3) := by decide +kernel
theorem dX2_launder_8 : decode cX2_launder 8 = .ok (.aload_n 0, 1) := by decide +kernel
theorem dX2_launder_9 : decode cX2_launder 9 = .ok (.getfield 15, 3) := by decide +kernel
theorem dX2_launder_12 : decode cX2_launder 12 = .ok (.iload_n 1, 1) := by decide +kernel
theorem dX2_launder_13 : decode cX2_launder 13 = .ok (.iaload, 1) := by decide +kernel
theorem dX2_launder_14 : decode cX2_launder 14 = .ok (.getstatic 74, 3) := by decide +kernel
theorem dX2_launder_17 : decode cX2_launder 17 = .ok (.aload_n 0, 1) := by decide +kernel
theorem dX2_launder_18 : decode cX2_launder 18 = .ok (.getfield 18, 3) := by decide +kernel
theorem dX2_launder_21 : decode cX2_launder 21 = .ok (.iaload, 1) := by decide +kernel
theorem dX2_launder_22 : decode cX2_launder 22 = .ok (.isub, 1) := by decide +kernel
theorem dX2_launder_23 : decode cX2_launder 23 = .ok (.istore_n 2, 1) := by decide +kernel
theorem dX2_launder_24 : decode cX2_launder 24 = .ok (.iload_n 2, 1) := by decide +kernel
theorem dX2_launder_25 : decode cX2_launder 25 = .ok (.ifCond .le 13, 3) := by decide +kernel
theorem dX2_launder_28 : decode cX2_launder 28 = .ok (.aload_n 0, 1) := by decide +kernel
theorem dX2_launder_29 : decode cX2_launder 29 = .ok (.getfield 15, 3) := by decide +kernel
theorem dX2_launder_32 : decode cX2_launder 32 = .ok (.iload_n 1, 1) := by decide +kernel
theorem dX2_launder_33 : decode cX2_launder 33 = .ok (.iload_n 2, 1) := by decide +kernel
theorem dX2_launder_34 : decode cX2_launder 34 = .ok (.iastore, 1) := by decide +kernel
theorem dX2_launder_35 : decode cX2_launder 35 = .ok (.goto 10, 3) := by decide +kernel
theorem dX2_launder_38 : decode cX2_launder 38 = .ok (.aload_n 0, 1) := by decide +kernel
theorem dX2_launder_39 : decode cX2_launder 39 = .ok (.iload_n 1, 1) := by decide +kernel
theorem dX2_launder_40 : decode cX2_launder 40 = .ok (.iconst 0, 1) := by decide +kernel
theorem dX2_launder_41 : decode cX2_launder 41 = .ok (.iconst 0, 1) := by decide +kernel
theorem dX2_launder_42 : decode cX2_launder 42 = .ok (.invokevirtual 60, 3) := by decide +kernel
theorem dX2_launder_45 : decode cX2_launder 45 = .ok (.iinc 1 1, 3) := by decide +kernel
theorem dX2_launder_48 : decode cX2_launder 48 = .ok (.goto (-46), 3) := by decide +kernel
theorem dX2_launder_51 : decode cX2_launder 51 = .ok (.return_, 1) := by decide +kernel
theorem dX2_countHabits_0 : decode cX2_countHabits 0 = .ok (.iconst 0, 1) := by decide +kernel
theorem dX2_countHabits_1 : decode cX2_countHabits 1 = .ok (.istore_n 1, 1) := by decide +kernel
theorem dX2_countHabits_2 : decode cX2_countHabits 2 = .ok (.iconst 0, 1) := by decide +kernel
theorem dX2_countHabits_3 : decode cX2_countHabits 3 = .ok (.istore_n 2, 1) := by decide +kernel
theorem dX2_countHabits_4 : decode cX2_countHabits 4 = .ok (.iload_n 2, 1) := by decide +kernel
theorem dX2_countHabits_5 : decode cX2_countHabits 5 = .ok (.bipush 12, 2) := by decide +kernel
theorem dX2_countHabits_7 : decode cX2_countHabits 7 = .ok (.if_icmp .ge 21, 3) := by decide +kernel
theorem dX2_countHabits_10 : decode cX2_countHabits 10 = .ok (.aload_n 0, 1) := by decide +kernel
theorem dX2_countHabits_11 : decode cX2_countHabits 11 = .ok (.getfield 9, 3) := by decide +kernel
theorem dX2_countHabits_14 : decode cX2_countHabits 14 = .ok (.iload_n 2, 1) := by decide +kernel
theorem dX2_countHabits_15 : decode cX2_countHabits 15 = .ok (.iaload, 1) := by decide +kernel
theorem dX2_countHabits_16 : decode cX2_countHabits 16 = .ok (.ifCond .eq 6, 3) := by decide +kernel
theorem dX2_countHabits_19 : decode cX2_countHabits 19 = .ok (.iinc 1 1, 3) := by decide +kernel
theorem dX2_countHabits_22 : decode cX2_countHabits 22 = .ok (.iinc 2 1, 3) := by decide +kernel
theorem dX2_countHabits_25 : decode cX2_countHabits 25 = .ok (.goto (-21), 3) := by decide +kernel
theorem dX2_countHabits_28 : decode cX2_countHabits 28 = .ok (.iload_n 1, 1) := by decide +kernel
theorem dX2_countHabits_29 : decode cX2_countHabits 29 = .ok (.ireturn, 1) := by decide +kernel
theorem dX3_init_0 : decode cX3_init 0 = .ok (.aload_n 0, 1) := by decide +kernel
theorem dX3_init_1 : decode cX3_init 1 = .ok (.invokespecial 3, 3) := by decide +kernel
theorem dX3_init_4 : decode cX3_init 4 = .ok (.aload_n 0, 1) := by decide +kernel
theorem dX3_init_5 : decode cX3_init 5 = .ok (.iconst 0, 1) := by decide +kernel
theorem dX3_init_6 : decode cX3_init 6 = .ok (.putfield 9, 3) := by decide +kernel
theorem dX3_init_9 : decode cX3_init 9 = .ok (.aload_n 0, 1) := by decide +kernel
theorem dX3_init_10 : decode cX3_init 10 = .ok (.bipush 20, 2) := by decide +kernel
theorem dX3_init_12 : decode cX3_init 12 = .ok (.newarray .int, 2) := by decide +kernel
theorem dX3_init_14 : decode cX3_init 14 = .ok (.putfield 15, 3) := by decide +kernel
theorem dX3_init_17 : decode cX3_init 17 = .ok (.aload_n 0, 1) := by decide +kernel
theorem dX3_init_18 : decode cX3_init 18 = .ok (.iconst 0, 1) := by decide +kernel
theorem dX3_init_19 : decode cX3_init 19 = .ok (.putfield 19, 3) := by decide +kernel
theorem dX3_init_22 : decode cX3_init 22 = .ok (.aload_n 0, 1) := by decide +kernel
theorem dX3_init_23 : decode cX3_init 23 = .ok (.iconst 0, 1) := by decide +kernel
theorem dX3_init_24 : decode cX3_init 24 = .ok (.putfield 22, 3) := by decide +kernel
theorem dX3_init_27 : decode cX3_init 27 = .ok (.aload_n 0, 1) := by decide +kernel
theorem dX3_init_28 : decode cX3_init 28 = .ok (.iconst 0, 1) := by decide +kernel
theorem dX3_init_29 : decode cX3_init 29 = .ok (.putfield 25, 3) := by decide +kernel
theorem dX3_init_32 : decode cX3_init 32 = .ok (.return_, 1) := by decide +kernel
theorem dX3_forget_0 : decode cX3_forget 0 = .ok (.aload_n 0, 1) := by decide +kernel
theorem dX3_forget_1 : decode cX3_forget 1 = .ok (.iconst 0, 1) := by decide +kernel
theorem dX3_forget_2 : decode cX3_forget 2 = .ok (.putfield 9, 3) := by decide +kernel
theorem dX3_forget_5 : decode cX3_forget 5 = .ok (.return_, 1) := by decide +kernel
theorem dX3_bodyAt_0 : decode cX3_bodyAt 0 = .ok (.iload_n 1, 1) := by decide +kernel
theorem dX3_bodyAt_1 : decode cX3_bodyAt 1 = .ok (.ifCond .lt 26, 3) := by decide +kernel
theorem dX3_bodyAt_4 : decode cX3_bodyAt 4 = .ok (.iload_n 1, 1) := by decide +kernel
theorem dX3_bodyAt_5 : decode cX3_bodyAt 5 = .ok (.aload_n 0, 1) := by decide +kernel
theorem dX3_bodyAt_6 : decode cX3_bodyAt 6 = .ok (.getfield 9, 3) := by decide +kernel
theorem dX3_bodyAt_9 : decode cX3_bodyAt 9 = .ok (.if_icmp .ge 18, 3) := by decide +kernel
theorem dX3_bodyAt_12 : decode cX3_bodyAt 12 = .ok (.iload_n 1, 1) := by decide +kernel
theorem dX3_bodyAt_13 : decode cX3_bodyAt 13 = .ok (.bipush 20, 2) := by decide +kernel
theorem dX3_bodyAt_15 : decode cX3_bodyAt 15 = .ok (.if_icmp .ge 12, 3) := by decide +kernel
theorem dX3_bodyAt_18 : decode cX3_bodyAt 18 = .ok (.aload_n 0, 1) := by decide +kernel
theorem dX3_bodyAt_19 : decode cX3_bodyAt 19 = .ok (.getfield 15, 3) := by decide +kernel
theorem dX3_bodyAt_22 : decode cX3_bodyAt 22 = .ok (.iload_n 1, 1) := by decide +kernel
theorem dX3_bodyAt_23 : decode cX3_bodyAt 23 = .ok (.iaload, 1) := by decide +kernel
theorem dX3_bodyAt_24 : decode cX3_bodyAt 24 = .ok (.goto 4, 3) := by decide +kernel
theorem dX3_bodyAt_27 : decode cX3_bodyAt 27 = .ok (.iconst (-1), 1) := by decide +kernel
theorem dX3_bodyAt_28 : decode cX3_bodyAt 28 = .ok (.ireturn, 1) := by decide +kernel
theorem dX3_make_0 : decode cX3_make 0 = .ok (.aload_n 0, 1) := by decide +kernel
theorem dX3_make_1 : decode cX3_make 1 = .ok (.aload_n 1, 1) := by decide +kernel
theorem dX3_make_2 : decode cX3_make 2 = .ok (.getfield 28, 3) := by decide +kernel
theorem dX3_make_5 : decode cX3_make 5 = .ok (.putfield 19, 3) := by decide +kernel
theorem dX3_make_8 : decode cX3_make 8 = .ok (.aload_n 0, 1) := by decide +kernel
theorem dX3_make_9 : decode cX3_make 9 = .ok (.iload_n 2, 1) := by decide +kernel
theorem dX3_make_10 : decode cX3_make 10 = .ok (.putfield 22, 3) := by decide +kernel
theorem dX3_make_13 : decode cX3_make 13 = .ok (.aload_n 0, 1) := by decide +kernel
theorem dX3_make_14 : decode cX3_make 14 = .ok (.aload_n 1, 1) := by decide +kernel
theorem dX3_make_15 : decode cX3_make 15 = .ok (.getfield 31, 3) := by decide +kernel
theorem dX3_make_18 : decode cX3_make 18 = .ok (.putfield 25, 3) := by decide +kernel
theorem dX3_make_21 : decode cX3_make 21 = .ok (.aload_n 0, 1) := by decide +kernel
theorem dX3_make_22 : decode cX3_make 22 = .ok (.aload_n 0, 1) := by decide +kernel
theorem dX3_make_23 : decode cX3_make 23 = .ok (.getfield 19, 3) := by decide +kernel
theorem dX3_make_26 : decode cX3_make 26 = .ok (.iload_n 3, 1) := by decide +kernel
theorem dX3_make_27 : decode cX3_make 27 = .ok (.iload 4, 2) := by decide +kernel
theorem dX3_make_29 : decode cX3_make 29 = .ok (.iconst 0, 1) := by decide +kernel
theorem dX3_make_30 : decode cX3_make 30 = .ok (.invokevirtual 34, 3) := by decide +kernel
theorem dX3_make_33 : decode cX3_make 33 = .ok (.ireturn, 1) := by decide +kernel
theorem dX3_run_0 : decode cX3_run 0 = .ok (.iload_n 1, 1) := by decide +kernel
theorem dX3_run_1 : decode cX3_run 1 = .ok (.istore 5, 2) := by decide +kernel
theorem dX3_run_3 : decode cX3_run 3 = .ok (.iconst 0, 1) := by decide +kernel
theorem dX3_run_4 : decode cX3_run 4 = .ok (.istore 6, 2) := by decide +kernel
theorem dX3_run_6 : decode cX3_run 6 = .ok (.iload 6, 2) := by decide +kernel
theorem dX3_run_8 : decode cX3_run 8 = .ok (.bipush 7, 2) := by decide +kernel
theorem dX3_run_10 : decode cX3_run 10 = .ok (.if_icmp .ge 36, 3) := by decide +kernel
theorem dX3_run_13 : decode cX3_run 13 = .ok (.iload 5, 2) := by decide +kernel
theorem dX3_run_15 : decode cX3_run 15 = .ok (.iconst (-1), 1) := by decide +kernel
theorem dX3_run_16 : decode cX3_run 16 = .ok (.if_icmp .eq 30, 3) := by decide +kernel
theorem dX3_run_19 : decode cX3_run 19 = .ok (.getstatic 38, 3) := by decide +kernel
theorem dX3_run_22 : decode cX3_run 22 = .ok (.iload 5, 2) := by decide +kernel
theorem dX3_run_24 : decode cX3_run 24 = .ok (.iconst 3, 1) := by decide +kernel
theorem dX3_run_25 : decode cX3_run 25 = .ok (.imul, 1) := by decide +kernel
theorem dX3_run_26 : decode cX3_run 26 = .ok (.iload_n 2, 1) := by decide +kernel
theorem dX3_run_27 : decode cX3_run 27 = .ok (.iadd, 1) := by decide +kernel
theorem dX3_run_28 : decode cX3_run 28 = .ok (.iaload, 1) := by decide +kernel
theorem dX3_run_29 : decode cX3_run 29 = .ok (.ifCond .ne 17, 3) := by decide +kernel
theorem dX3_run_32 : decode cX3_run 32 = .ok (.getstatic 41, 3) := by decide +kernel
theorem dX3_run_35 : decode cX3_run 35 = .ok (.iload 5, 2) := by decide +kernel
theorem dX3_run_37 : decode cX3_run 37 = .ok (.iaload, 1) := by decide +kernel
theorem dX3_run_38 : decode cX3_run 38 = .ok (.istore 5, 2) := by decide +kernel
theorem dX3_run_40 : decode cX3_run 40 = .ok (.iinc 6 1, 3) := by decide +kernel
theorem dX3_run_43 : decode cX3_run 43 = .ok (.goto (-37), 3) := by decide +kernel
theorem dX3_run_46 : decode cX3_run 46 = .ok (.iload 5, 2) := by decide +kernel
theorem dX3_run_48 : decode cX3_run 48 = .ok (.iconst (-1), 1) := by decide +kernel
theorem dX3_run_49 : decode cX3_run 49 = .ok (.if_icmp .eq 10, 3) := by decide +kernel
theorem dX3_run_52 : decode cX3_run 52 = .ok (.iload 4, 2) := by decide +kernel
theorem dX3_run_54 : decode cX3_run 54 = .ok (.bipush 40, 2) := by decide +kernel
theorem dX3_run_56 : decode cX3_run 56 = .ok (.if_icmp .le 5, 3) := by decide +kernel
theorem dX3_run_59 : decode cX3_run 59 = .ok (.iconst 0, 1) := by decide +kernel
theorem dX3_run_60 : decode cX3_run 60 = .ok (.ireturn, 1) := by decide +kernel
theorem dX3_run_61 : decode cX3_run 61 = .ok (.getstatic 38, 3) := by decide +kernel
theorem dX3_run_64 : decode cX3_run 64 = .ok (.iload 5, 2) := by decide +kernel
theorem dX3_run_66 : decode cX3_run 66 = .ok (.iconst 3, 1) := by decide +kernel
theorem dX3_run_67 : decode cX3_run 67 = .ok (.imul, 1) := by decide +kernel
theorem dX3_run_68 : decode cX3_run 68 = .ok (.iload_n 2, 1) := by decide +kernel
theorem dX3_run_69 : decode cX3_run 69 = .ok (.iadd, 1) := by decide +kernel
theorem dX3_run_70 : decode cX3_run 70 = .ok (.iaload, 1) := by decide +kernel
theorem dX3_run_71 : decode cX3_run 71 = .ok (.istore 6, 2) := by decide +kernel
theorem dX3_run_73 : decode cX3_run 73 = .ok (.aload_n 0, 1) := by decide +kernel
theorem dX3_run_74 : decode cX3_run 74 = .ok (.iload 6, 2) := by decide +kernel
theorem dX3_run_76 : decode cX3_run 76 = .ok (.invokevirtual 44, 3) := by decide +kernel
theorem dX3_run_79 : decode cX3_run 79 = .ok (.iload 4, 2) := by decide +kernel
theorem dX3_run_81 : decode cX3_run 81 = .ok (.iconst 1, 1) := by decide +kernel
theorem dX3_run_82 : decode cX3_run 82 = .ok (.iadd, 1) := by decide +kernel
theorem dX3_run_83 : decode cX3_run 83 = .ok (.istore 7, 2) := by decide +kernel
theorem dX3_run_85 : decode cX3_run 85 = .ok (.iload 6, 2) := by decide +kernel
theorem dX3_run_87 : decode cX3_run 87 = .ok (.lookupswitch 266 #[(10, 89), (11, 96), (12, 111), (20, 142), (30, 162), (40, 179), (50, 196), (51, 212), (60, 232), (70, 249)], 89) := by decide +kernel
theorem dX3_run_176 : decode cX3_run 176 = .ok (.iload_n 3, 1) := by decide +kernel
theorem dX3_run_177 : decode cX3_run 177 = .ok (.aload_n 0, 1) := by decide +kernel
theorem dX3_run_178 : decode cX3_run 178 = .ok (.getfield 22, 3) := by decide +kernel
theorem dX3_run_181 : decode cX3_run 181 = .ok (.iadd, 1) := by decide +kernel
theorem dX3_run_182 : decode cX3_run 182 = .ok (.ireturn, 1) := by decide +kernel
theorem dX3_run_183 : decode cX3_run 183 = .ok (.aload_n 0, 1) := by decide +kernel
theorem dX3_run_184 : decode cX3_run 184 = .ok (.aload_n 0, 1) := by decide +kernel
theorem dX3_run_185 : decode cX3_run 185 = .ok (.getfield 19, 3) := by decide +kernel
theorem dX3_run_188 : decode cX3_run 188 = .ok (.iconst 0, 1) := by decide +kernel
theorem dX3_run_189 : decode cX3_run 189 = .ok (.iload_n 3, 1) := by decide +kernel
theorem dX3_run_190 : decode cX3_run 190 = .ok (.iload 7, 2) := by decide +kernel
theorem dX3_run_192 : decode cX3_run 192 = .ok (.invokevirtual 34, 3) := by decide +kernel
theorem dX3_run_195 : decode cX3_run 195 = .ok (.iconst 2, 1) := by decide +kernel
theorem dX3_run_196 : decode cX3_run 196 = .ok (.imul, 1) := by decide +kernel
theorem dX3_run_197 : decode cX3_run 197 = .ok (.ireturn, 1) := by decide +kernel
theorem dX3_run_198 : decode cX3_run 198 = .ok (.aload_n 0, 1) := by decide +kernel
theorem dX3_run_199 : decode cX3_run 199 = .ok (.aload_n 0, 1) := by decide +kernel
theorem dX3_run_200 : decode cX3_run 200 = .ok (.getfield 19, 3) := by decide +kernel
theorem dX3_run_203 : decode cX3_run 203 = .ok (.iconst 1, 1) := by decide +kernel
theorem dX3_run_204 : decode cX3_run 204 = .ok (.iload_n 3, 1) := by decide +kernel
theorem dX3_run_205 : decode cX3_run 205 = .ok (.iload 7, 2) := by decide +kernel
theorem dX3_run_207 : decode cX3_run 207 = .ok (.invokevirtual 34, 3) := by decide +kernel
theorem dX3_run_210 : decode cX3_run 210 = .ok (.aload_n 0, 1) := by decide +kernel
theorem dX3_run_211 : decode cX3_run 211 = .ok (.aload_n 0, 1) := by decide +kernel
theorem dX3_run_212 : decode cX3_run 212 = .ok (.getfield 19, 3) := by decide +kernel
theorem dX3_run_215 : decode cX3_run 215 = .ok (.iconst 0, 1) := by decide +kernel
theorem dX3_run_216 : decode cX3_run 216 = .ok (.iload_n 3, 1) := by decide +kernel
theorem dX3_run_217 : decode cX3_run 217 = .ok (.aload_n 0, 1) := by decide +kernel
theorem dX3_run_218 : decode cX3_run 218 = .ok (.getfield 25, 3) := by decide +kernel
theorem dX3_run_221 : decode cX3_run 221 = .ok (.isub, 1) := by decide +kernel
theorem dX3_run_222 : decode cX3_run 222 = .ok (.iload 7, 2) := by decide +kernel
theorem dX3_run_224 : decode cX3_run 224 = .ok (.invokevirtual 34, 3) := by decide +kernel
theorem dX3_run_227 : decode cX3_run 227 = .ok (.ixor, 1) := by decide +kernel
theorem dX3_run_228 : decode cX3_run 228 = .ok (.ireturn, 1) := by decide +kernel
theorem dX3_run_229 : decode cX3_run 229 = .ok (.aload_n 0, 1) := by decide +kernel
theorem dX3_run_230 : decode cX3_run 230 = .ok (.getstatic 41, 3) := by decide +kernel
theorem dX3_run_233 : decode cX3_run 233 = .ok (.iload 5, 2) := by decide +kernel
theorem dX3_run_235 : decode cX3_run 235 = .ok (.iaload, 1) := by decide +kernel
theorem dX3_run_236 : decode cX3_run 236 = .ok (.iconst 0, 1) := by decide +kernel
theorem dX3_run_237 : decode cX3_run 237 = .ok (.iload_n 3, 1) := by decide +kernel
theorem dX3_run_238 : decode cX3_run 238 = .ok (.iload 7, 2) := by decide +kernel
theorem dX3_run_240 : decode cX3_run 240 = .ok (.invokevirtual 34, 3) := by decide +kernel
theorem dX3_run_243 : decode cX3_run 243 = .ok (.aload_n 0, 1) := by decide +kernel
theorem dX3_run_244 : decode cX3_run 244 = .ok (.getfield 25, 3) := by decide +kernel
theorem dX3_run_247 : decode cX3_run 247 = .ok (.iadd, 1) := by decide +kernel
theorem dX3_run_248 : decode cX3_run 248 = .ok (.ireturn, 1) := by decide +kernel
theorem dX3_run_249 : decode cX3_run 249 = .ok (.aload_n 0, 1) := by decide +kernel
theorem dX3_run_250 : decode cX3_run 250 = .ok (.getstatic 41, 3) := by decide +kernel
theorem dX3_run_253 : decode cX3_run 253 = .ok (.iload 5, 2) := by decide +kernel
theorem dX3_run_255 : decode cX3_run 255 = .ok (.iaload, 1) := by decide +kernel
theorem dX3_run_256 : decode cX3_run 256 = .ok (.iconst 1, 1) := by decide +kernel
theorem dX3_run_257 : decode cX3_run 257 = .ok (.iload_n 3, 1) := by decide +kernel
theorem dX3_run_258 : decode cX3_run 258 = .ok (.iload 7, 2) := by decide +kernel
theorem dX3_run_260 : decode cX3_run 260 = .ok (.invokevirtual 34, 3) := by decide +kernel
theorem dX3_run_263 : decode cX3_run 263 = .ok (.iconst 3, 1) := by decide +kernel
theorem dX3_run_264 : decode cX3_run 264 = .ok (.imul, 1) := by decide +kernel
theorem dX3_run_265 : decode cX3_run 265 = .ok (.ireturn, 1) := by decide +kernel
theorem dX3_run_266 : decode cX3_run 266 = .ok (.aload_n 0, 1) := by decide +kernel
theorem dX3_run_267 : decode cX3_run 267 = .ok (.getstatic 41, 3) := by decide +kernel
theorem dX3_run_270 : decode cX3_run 270 = .ok (.iload 5, 2) := by decide +kernel
theorem dX3_run_272 : decode cX3_run 272 = .ok (.iaload, 1) := by decide +kernel
theorem dX3_run_273 : decode cX3_run 273 = .ok (.iconst 1, 1) := by decide +kernel
theorem dX3_run_274 : decode cX3_run 274 = .ok (.iload_n 3, 1) := by decide +kernel
theorem dX3_run_275 : decode cX3_run 275 = .ok (.iconst 1, 1) := by decide +kernel
theorem dX3_run_276 : decode cX3_run 276 = .ok (.iadd, 1) := by decide +kernel
theorem dX3_run_277 : decode cX3_run 277 = .ok (.iload 7, 2) := by decide +kernel
theorem dX3_run_279 : decode cX3_run 279 = .ok (.invokevirtual 34, 3) := by decide +kernel
theorem dX3_run_282 : decode cX3_run 282 = .ok (.ireturn, 1) := by decide +kernel
theorem dX3_run_283 : decode cX3_run 283 = .ok (.aload_n 0, 1) := by decide +kernel
theorem dX3_run_284 : decode cX3_run 284 = .ok (.getstatic 41, 3) := by decide +kernel
theorem dX3_run_287 : decode cX3_run 287 = .ok (.iload 5, 2) := by decide +kernel
theorem dX3_run_289 : decode cX3_run 289 = .ok (.iaload, 1) := by decide +kernel
theorem dX3_run_290 : decode cX3_run 290 = .ok (.iconst 2, 1) := by decide +kernel
theorem dX3_run_291 : decode cX3_run 291 = .ok (.iload_n 3, 1) := by decide +kernel
theorem dX3_run_292 : decode cX3_run 292 = .ok (.iload 7, 2) := by decide +kernel
theorem dX3_run_294 : decode cX3_run 294 = .ok (.invokevirtual 34, 3) := by decide +kernel
theorem dX3_run_297 : decode cX3_run 297 = .ok (.ineg, 1) := by decide +kernel
theorem dX3_run_298 : decode cX3_run 298 = .ok (.ireturn, 1) := by decide +kernel
theorem dX3_run_299 : decode cX3_run 299 = .ok (.aload_n 0, 1) := by decide +kernel
theorem dX3_run_300 : decode cX3_run 300 = .ok (.getstatic 41, 3) := by decide +kernel
theorem dX3_run_303 : decode cX3_run 303 = .ok (.iload 5, 2) := by decide +kernel
theorem dX3_run_305 : decode cX3_run 305 = .ok (.iaload, 1) := by decide +kernel
theorem dX3_run_306 : decode cX3_run 306 = .ok (.iconst 0, 1) := by decide +kernel
theorem dX3_run_307 : decode cX3_run 307 = .ok (.iload_n 3, 1) := by decide +kernel
theorem dX3_run_308 : decode cX3_run 308 = .ok (.iload 7, 2) := by decide +kernel
theorem dX3_run_310 : decode cX3_run 310 = .ok (.invokevirtual 34, 3) := by decide +kernel
theorem dX3_run_313 : decode cX3_run 313 = .ok (.aload_n 0, 1) := by decide +kernel
theorem dX3_run_314 : decode cX3_run 314 = .ok (.getfield 22, 3) := by decide +kernel
theorem dX3_run_317 : decode cX3_run 317 = .ok (.isub, 1) := by decide +kernel
theorem dX3_run_318 : decode cX3_run 318 = .ok (.ireturn, 1) := by decide +kernel
theorem dX3_run_319 : decode cX3_run 319 = .ok (.aload_n 0, 1) := by decide +kernel
theorem dX3_run_320 : decode cX3_run 320 = .ok (.getstatic 41, 3) := by decide +kernel
theorem dX3_run_323 : decode cX3_run 323 = .ok (.iload 5, 2) := by decide +kernel
theorem dX3_run_325 : decode cX3_run 325 = .ok (.iaload, 1) := by decide +kernel
theorem dX3_run_326 : decode cX3_run 326 = .ok (.iconst 2, 1) := by decide +kernel
theorem dX3_run_327 : decode cX3_run 327 = .ok (.iload_n 3, 1) := by decide +kernel
theorem dX3_run_328 : decode cX3_run 328 = .ok (.iload 7, 2) := by decide +kernel
theorem dX3_run_330 : decode cX3_run 330 = .ok (.invokevirtual 34, 3) := by decide +kernel
theorem dX3_run_333 : decode cX3_run 333 = .ok (.iconst 5, 1) := by decide +kernel
theorem dX3_run_334 : decode cX3_run 334 = .ok (.ixor, 1) := by decide +kernel
theorem dX3_run_335 : decode cX3_run 335 = .ok (.ireturn, 1) := by decide +kernel
theorem dX3_run_336 : decode cX3_run 336 = .ok (.aload_n 0, 1) := by decide +kernel
theorem dX3_run_337 : decode cX3_run 337 = .ok (.getstatic 41, 3) := by decide +kernel
theorem dX3_run_340 : decode cX3_run 340 = .ok (.iload 5, 2) := by decide +kernel
theorem dX3_run_342 : decode cX3_run 342 = .ok (.iaload, 1) := by decide +kernel
theorem dX3_run_343 : decode cX3_run 343 = .ok (.iconst 0, 1) := by decide +kernel
theorem dX3_run_344 : decode cX3_run 344 = .ok (.iload_n 3, 1) := by decide +kernel
theorem dX3_run_345 : decode cX3_run 345 = .ok (.iload 7, 2) := by decide +kernel
theorem dX3_run_347 : decode cX3_run 347 = .ok (.invokevirtual 34, 3) := by decide +kernel
theorem dX3_run_350 : decode cX3_run 350 = .ok (.iconst 2, 1) := by decide +kernel
theorem dX3_run_351 : decode cX3_run 351 = .ok (.imul, 1) := by decide +kernel
theorem dX3_run_352 : decode cX3_run 352 = .ok (.ireturn, 1) := by decide +kernel
theorem dX3_run_353 : decode cX3_run 353 = .ok (.aload_n 0, 1) := by decide +kernel
theorem dX3_run_354 : decode cX3_run 354 = .ok (.getstatic 41, 3) := by decide +kernel
theorem dX3_run_357 : decode cX3_run 357 = .ok (.iload 5, 2) := by decide +kernel
theorem dX3_run_359 : decode cX3_run 359 = .ok (.iaload, 1) := by decide +kernel
theorem dX3_run_360 : decode cX3_run 360 = .ok (.iconst 1, 1) := by decide +kernel
theorem dX3_run_361 : decode cX3_run 361 = .ok (.iload_n 3, 1) := by decide +kernel
theorem dX3_run_362 : decode cX3_run 362 = .ok (.aload_n 0, 1) := by decide +kernel
theorem dX3_run_363 : decode cX3_run 363 = .ok (.getfield 25, 3) := by decide +kernel
theorem dX3_run_366 : decode cX3_run 366 = .ok (.isub, 1) := by decide +kernel
theorem dX3_run_367 : decode cX3_run 367 = .ok (.iload 7, 2) := by decide +kernel
theorem dX3_run_369 : decode cX3_run 369 = .ok (.invokevirtual 34, 3) := by decide +kernel
theorem dX3_run_372 : decode cX3_run 372 = .ok (.ireturn, 1) := by decide +kernel
theorem dX3_note_0 : decode cX3_note 0 = .ok (.aload_n 0, 1) := by decide +kernel
theorem dX3_note_1 : decode cX3_note 1 = .ok (.getfield 9, 3) := by decide +kernel
theorem dX3_note_4 : decode cX3_note 4 = .ok (.bipush 20, 2) := by decide +kernel
theorem dX3_note_6 : decode cX3_note 6 = .ok (.if_icmp .ge 13, 3) := by decide +kernel
theorem dX3_note_9 : decode cX3_note 9 = .ok (.aload_n 0, 1) := by decide +kernel
theorem dX3_note_10 : decode cX3_note 10 = .ok (.getfield 15, 3) := by decide +kernel
theorem dX3_note_13 : decode cX3_note 13 = .ok (.aload_n 0, 1) := by decide +kernel
theorem dX3_note_14 : decode cX3_note 14 = .ok (.getfield 9, 3) := by decide +kernel
theorem dX3_note_17 : decode cX3_note 17 = .ok (.iload_n 1, 1) := by decide +kernel
theorem dX3_note_18 : decode cX3_note 18 = .ok (.iastore, 1) := by decide +kernel
theorem dX3_note_19 : decode cX3_note 19 = .ok (.aload_n 0, 1) := by decide +kernel
theorem dX3_note_20 : decode cX3_note 20 = .ok (.dup, 1) := by decide +kernel
theorem dX3_note_21 : decode cX3_note 21 = .ok (.getfield 9, 3) := by decide +kernel
theorem dX3_note_24 : decode cX3_note 24 = .ok (.iconst 1, 1) := by decide +kernel
theorem dX3_note_25 : decode cX3_note 25 = .ok (.iadd, 1) := by decide +kernel
theorem dX3_note_26 : decode cX3_note 26 = .ok (.putfield 9, 3) := by decide +kernel
theorem dX3_note_29 : decode cX3_note 29 = .ok (.return_, 1) := by decide +kernel
theorem dX4_init_0 : decode cX4_init 0 = .ok (.aload_n 0, 1) := by decide +kernel
theorem dX4_init_1 : decode cX4_init 1 = .ok (.invokespecial 3, 3) := by decide +kernel
theorem dX4_init_4 : decode cX4_init 4 = .ok (.aload_n 0, 1) := by decide +kernel
theorem dX4_init_5 : decode cX4_init 5 = .ok (.bipush 12, 2) := by decide +kernel
theorem dX4_init_7 : decode cX4_init 7 = .ok (.newarray .int, 2) := by decide +kernel
theorem dX4_init_9 : decode cX4_init 9 = .ok (.putfield 9, 3) := by decide +kernel
theorem dX4_init_12 : decode cX4_init 12 = .ok (.aload_n 0, 1) := by decide +kernel
theorem dX4_init_13 : decode cX4_init 13 = .ok (.iconst 0, 1) := by decide +kernel
theorem dX4_init_14 : decode cX4_init 14 = .ok (.putfield 15, 3) := by decide +kernel
theorem dX4_init_17 : decode cX4_init 17 = .ok (.return_, 1) := by decide +kernel
theorem dX4_start_0 : decode cX4_start 0 = .ok (.aload_n 0, 1) := by decide +kernel
theorem dX4_start_1 : decode cX4_start 1 = .ok (.iload_n 1, 1) := by decide +kernel
theorem dX4_start_2 : decode cX4_start 2 = .ok (.putfield 15, 3) := by decide +kernel
theorem dX4_start_5 : decode cX4_start 5 = .ok (.aload_n 0, 1) := by decide +kernel
theorem dX4_start_6 : decode cX4_start 6 = .ok (.getfield 9, 3) := by decide +kernel
theorem dX4_start_9 : decode cX4_start 9 = .ok (.iconst 0, 1) := by decide +kernel
theorem dX4_start_10 : decode cX4_start 10 = .ok (.invokestatic 19, 3) := by decide +kernel
theorem dX4_start_13 : decode cX4_start 13 = .ok (.return_, 1) := by decide +kernel
theorem dX4_take_0 : decode cX4_take 0 = .ok (.aload_n 0, 1) := by decide +kernel
theorem dX4_take_1 : decode cX4_take 1 = .ok (.aload_n 1, 1) := by decide +kernel
theorem dX4_take_2 : decode cX4_take 2 = .ok (.getfield 15, 3) := by decide +kernel
theorem dX4_take_5 : decode cX4_take 5 = .ok (.putfield 15, 3) := by decide +kernel
theorem dX4_take_8 : decode cX4_take 8 = .ok (.aload_n 1, 1) := by decide +kernel
theorem dX4_take_9 : decode cX4_take 9 = .ok (.getfield 9, 3) := by decide +kernel
theorem dX4_take_12 : decode cX4_take 12 = .ok (.iconst 0, 1) := by decide +kernel
theorem dX4_take_13 : decode cX4_take 13 = .ok (.aload_n 0, 1) := by decide +kernel
theorem dX4_take_14 : decode cX4_take 14 = .ok (.getfield 9, 3) := by decide +kernel
theorem dX4_take_17 : decode cX4_take 17 = .ok (.iconst 0, 1) := by decide +kernel
theorem dX4_take_18 : decode cX4_take 18 = .ok (.bipush 12, 2) := by decide +kernel
theorem dX4_take_20 : decode cX4_take 20 = .ok (.invokestatic 25, 3) := by decide +kernel
theorem dX4_take_23 : decode cX4_take 23 = .ok (.return_, 1) := by decide +kernel
theorem dX5_init_0 : decode cX5_init 0 = .ok (.aload_n 0, 1) := by decide +kernel
theorem dX5_init_1 : decode cX5_init 1 = .ok (.invokespecial 3, 3) := by decide +kernel
theorem dX5_init_4 : decode cX5_init 4 = .ok (.aload_n 0, 1) := by decide +kernel
theorem dX5_init_5 : decode cX5_init 5 = .ok (.iconst (-1), 1) := by decide +kernel
theorem dX5_init_6 : decode cX5_init 6 = .ok (.putfield 9, 3) := by decide +kernel
theorem dX5_init_9 : decode cX5_init 9 = .ok (.aload_n 0, 1) := by decide +kernel
theorem dX5_init_10 : decode cX5_init 10 = .ok (.iconst 4, 1) := by decide +kernel
theorem dX5_init_11 : decode cX5_init 11 = .ok (.newarray .int, 2) := by decide +kernel
theorem dX5_init_13 : decode cX5_init 13 = .ok (.putfield 15, 3) := by decide +kernel
theorem dX5_init_16 : decode cX5_init 16 = .ok (.aload_n 0, 1) := by decide +kernel
theorem dX5_init_17 : decode cX5_init 17 = .ok (.aconst_null, 1) := by decide +kernel
theorem dX5_init_18 : decode cX5_init 18 = .ok (.putfield 19, 3) := by decide +kernel
theorem dX5_init_21 : decode cX5_init 21 = .ok (.aload_n 0, 1) := by decide +kernel
theorem dX5_init_22 : decode cX5_init 22 = .ok (.aconst_null, 1) := by decide +kernel
theorem dX5_init_23 : decode cX5_init 23 = .ok (.putfield 23, 3) := by decide +kernel
theorem dX5_init_26 : decode cX5_init 26 = .ok (.aload_n 0, 1) := by decide +kernel
theorem dX5_init_27 : decode cX5_init 27 = .ok (.iconst 0, 1) := by decide +kernel
theorem dX5_init_28 : decode cX5_init 28 = .ok (.putfield 27, 3) := by decide +kernel
theorem dX5_init_31 : decode cX5_init 31 = .ok (.return_, 1) := by decide +kernel
theorem dX5_read_0 : decode cX5_read 0 = .ok (.aload_n 0, 1) := by decide +kernel
theorem dX5_read_1 : decode cX5_read 1 = .ok (.aload_n 1, 1) := by decide +kernel
theorem dX5_read_2 : decode cX5_read 2 = .ok (.putfield 19, 3) := by decide +kernel
theorem dX5_read_5 : decode cX5_read 5 = .ok (.aload_n 0, 1) := by decide +kernel
theorem dX5_read_6 : decode cX5_read 6 = .ok (.aload_n 2, 1) := by decide +kernel
theorem dX5_read_7 : decode cX5_read 7 = .ok (.putfield 23, 3) := by decide +kernel
theorem dX5_read_10 : decode cX5_read 10 = .ok (.aload_n 0, 1) := by decide +kernel
theorem dX5_read_11 : decode cX5_read 11 = .ok (.iconst 0, 1) := by decide +kernel
theorem dX5_read_12 : decode cX5_read 12 = .ok (.putfield 27, 3) := by decide +kernel
theorem dX5_read_15 : decode cX5_read 15 = .ok (.aload_n 0, 1) := by decide +kernel
theorem dX5_read_16 : decode cX5_read 16 = .ok (.iconst (-1), 1) := by decide +kernel
theorem dX5_read_17 : decode cX5_read 17 = .ok (.putfield 9, 3) := by decide +kernel
theorem dX5_read_20 : decode cX5_read 20 = .ok (.iconst 0, 1) := by decide +kernel
theorem dX5_read_21 : decode cX5_read 21 = .ok (.istore_n 3, 1) := by decide +kernel
theorem dX5_read_22 : decode cX5_read 22 = .ok (.iconst 1, 1) := by decide +kernel
theorem dX5_read_23 : decode cX5_read 23 = .ok (.istore 4, 2) := by decide +kernel
theorem dX5_read_25 : decode cX5_read 25 = .ok (.iload 4, 2) := by decide +kernel
theorem dX5_read_27 : decode cX5_read 27 = .ok (.ifCond .eq 66, 3) := by decide +kernel
theorem dX5_read_30 : decode cX5_read 30 = .ok (.iload_n 3, 1) := by decide +kernel
theorem dX5_read_31 : decode cX5_read 31 = .ok (.sipush 160, 3) := by decide +kernel
theorem dX5_read_34 : decode cX5_read 34 = .ok (.if_icmp .gt 59, 3) := by decide +kernel
theorem dX5_read_37 : decode cX5_read 37 = .ok (.aload_n 0, 1) := by decide +kernel
theorem dX5_read_38 : decode cX5_read 38 = .ok (.invokevirtual 30, 3) := by decide +kernel
theorem dX5_read_41 : decode cX5_read 41 = .ok (.istore 5, 2) := by decide +kernel
theorem dX5_read_43 : decode cX5_read 43 = .ok (.iload 5, 2) := by decide +kernel
theorem dX5_read_45 : decode cX5_read 45 = .ok (.iconst (-1), 1) := by decide +kernel
theorem dX5_read_46 : decode cX5_read 46 = .ok (.if_icmp .ne 5, 3) := by decide +kernel
theorem dX5_read_49 : decode cX5_read 49 = .ok (.iload_n 3, 1) := by decide +kernel
theorem dX5_read_50 : decode cX5_read 50 = .ok (.ireturn, 1) := by decide +kernel
theorem dX5_read_51 : decode cX5_read 51 = .ok (.aload_n 0, 1) := by decide +kernel
theorem dX5_read_52 : decode cX5_read 52 = .ok (.iload 5, 2) := by decide +kernel
theorem dX5_read_54 : decode cX5_read 54 = .ok (.invokevirtual 34, 3) := by decide +kernel
theorem dX5_read_57 : decode cX5_read 57 = .ok (.iinc 3 1, 3) := by decide +kernel
theorem dX5_read_60 : decode cX5_read 60 = .ok (.aload_n 0, 1) := by decide +kernel
theorem dX5_read_61 : decode cX5_read 61 = .ok (.getfield 27, 3) := by decide +kernel
theorem dX5_read_64 : decode cX5_read 64 = .ok (.aload_n 0, 1) := by decide +kernel
theorem dX5_read_65 : decode cX5_read 65 = .ok (.getfield 19, 3) := by decide +kernel
theorem dX5_read_68 : decode cX5_read 68 = .ok (.getfield 38, 3) := by decide +kernel
theorem dX5_read_71 : decode cX5_read 71 = .ok (.if_icmp .ge 16, 3) := by decide +kernel
theorem dX5_read_74 : decode cX5_read 74 = .ok (.aload_n 0, 1) := by decide +kernel
theorem dX5_read_75 : decode cX5_read 75 = .ok (.bipush 59, 2) := by decide +kernel
theorem dX5_read_77 : decode cX5_read 77 = .ok (.invokevirtual 43, 3) := by decide +kernel
theorem dX5_read_80 : decode cX5_read 80 = .ok (.ifCond .eq 7, 3) := by decide +kernel
theorem dX5_read_83 : decode cX5_read 83 = .ok (.iconst 1, 1) := by decide +kernel
theorem dX5_read_84 : decode cX5_read 84 = .ok (.goto 4, 3) := by decide +kernel
theorem dX5_read_87 : decode cX5_read 87 = .ok (.iconst 0, 1) := by decide +kernel
theorem dX5_read_88 : decode cX5_read 88 = .ok (.istore 4, 2) := by decide +kernel
theorem dX5_read_90 : decode cX5_read 90 = .ok (.goto (-65), 3) := by decide +kernel
theorem dX5_read_93 : decode cX5_read 93 = .ok (.iload_n 3, 1) := by decide +kernel
theorem dX5_read_94 : decode cX5_read 94 = .ok (.ireturn, 1) := by decide +kernel
theorem dX5_readItem_0 : decode cX5_readItem 0 = .ok (.aload_n 0, 1) := by decide +kernel
theorem dX5_readItem_1 : decode cX5_readItem 1 = .ok (.getfield 27, 3) := by decide +kernel
theorem dX5_readItem_4 : decode cX5_readItem 4 = .ok (.istore_n 1, 1) := by decide +kernel
theorem dX5_readItem_5 : decode cX5_readItem 5 = .ok (.aload_n 0, 1) := by decide +kernel
theorem dX5_readItem_6 : decode cX5_readItem 6 = .ok (.invokevirtual 47, 3) := by decide +kernel
theorem dX5_readItem_9 : decode cX5_readItem 9 = .ok (.istore_n 2, 1) := by decide +kernel
theorem dX5_readItem_10 : decode cX5_readItem 10 = .ok (.iload_n 2, 1) := by decide +kernel
theorem dX5_readItem_11 : decode cX5_readItem 11 = .ok (.ifCond .ne 13, 3) := by decide +kernel
theorem dX5_readItem_14 : decode cX5_readItem 14 = .ok (.aload_n 0, 1) := by decide +kernel
theorem dX5_readItem_15 : decode cX5_readItem 15 = .ok (.getfield 23, 3) := by decide +kernel
theorem dX5_readItem_18 : decode cX5_readItem 18 = .ok (.invokevirtual 50, 3) := by decide +kernel
theorem dX5_readItem_21 : decode cX5_readItem 21 = .ok (.ifCond .ne 18, 3) := by decide +kernel
theorem dX5_readItem_24 : decode cX5_readItem 24 = .ok (.iload_n 2, 1) := by decide +kernel
theorem dX5_readItem_25 : decode cX5_readItem 25 = .ok (.iconst 1, 1) := by decide +kernel
theorem dX5_readItem_26 : decode cX5_readItem 26 = .ok (.if_icmp .ne 20, 3) := by decide +kernel
theorem dX5_readItem_29 : decode cX5_readItem 29 = .ok (.aload_n 0, 1) := by decide +kernel
theorem dX5_readItem_30 : decode cX5_readItem 30 = .ok (.getfield 23, 3) := by decide +kernel
theorem dX5_readItem_33 : decode cX5_readItem 33 = .ok (.invokevirtual 56, 3) := by decide +kernel
theorem dX5_readItem_36 : decode cX5_readItem 36 = .ok (.ifCond .eq 10, 3) := by decide +kernel
theorem dX5_readItem_39 : decode cX5_readItem 39 = .ok (.aload_n 0, 1) := by decide +kernel
theorem dX5_readItem_40 : decode cX5_readItem 40 = .ok (.iload_n 1, 1) := by decide +kernel
theorem dX5_readItem_41 : decode cX5_readItem 41 = .ok (.putfield 9, 3) := by decide +kernel
theorem dX5_readItem_44 : decode cX5_readItem 44 = .ok (.iconst (-1), 1) := by decide +kernel
theorem dX5_readItem_45 : decode cX5_readItem 45 = .ok (.ireturn, 1) := by decide +kernel
theorem dX5_readItem_46 : decode cX5_readItem 46 = .ok (.iload_n 2, 1) := by decide +kernel
theorem dX5_readItem_47 : decode cX5_readItem 47 = .ok (.iconst (-1), 1) := by decide +kernel
theorem dX5_readItem_48 : decode cX5_readItem 48 = .ok (.if_icmp .eq 15, 3) := by decide +kernel
theorem dX5_readItem_51 : decode cX5_readItem 51 = .ok (.aload_n 0, 1) := by decide +kernel
theorem dX5_readItem_52 : decode cX5_readItem 52 = .ok (.iload_n 2, 1) := by decide +kernel
theorem dX5_readItem_53 : decode cX5_readItem 53 = .ok (.invokevirtual 59, 3) := by decide +kernel
theorem dX5_readItem_56 : decode cX5_readItem 56 = .ok (.ifCond .eq 7, 3) := by decide +kernel
theorem dX5_readItem_59 : decode cX5_readItem 59 = .ok (.iload_n 2, 1) := by decide +kernel
theorem dX5_readItem_60 : decode cX5_readItem 60 = .ok (.goto 4, 3) := by decide +kernel
theorem dX5_readItem_63 : decode cX5_readItem 63 = .ok (.iconst (-1), 1) := by decide +kernel
theorem dX5_readItem_64 : decode cX5_readItem 64 = .ok (.ireturn, 1) := by decide +kernel
theorem dX5_readWord_0 : decode cX5_readWord 0 = .ok (.sipush 255, 3) := by decide +kernel
theorem dX5_readWord_3 : decode cX5_readWord 3 = .ok (.istore_n 1, 1) := by decide +kernel
theorem dX5_readWord_4 : decode cX5_readWord 4 = .ok (.iconst 0, 1) := by decide +kernel
theorem dX5_readWord_5 : decode cX5_readWord 5 = .ok (.istore_n 2, 1) := by decide +kernel
theorem dX5_readWord_6 : decode cX5_readWord 6 = .ok (.iload_n 2, 1) := by decide +kernel
theorem dX5_readWord_7 : decode cX5_readWord 7 = .ok (.bipush 7, 2) := by decide +kernel
theorem dX5_readWord_9 : decode cX5_readWord 9 = .ok (.if_icmp .ge 63, 3) := by decide +kernel
theorem dX5_readWord_12 : decode cX5_readWord 12 = .ok (.iload_n 1, 1) := by decide +kernel
theorem dX5_readWord_13 : decode cX5_readWord 13 = .ok (.iload_n 2, 1) := by decide +kernel
theorem dX5_readWord_14 : decode cX5_readWord 14 = .ok (.aload_n 0, 1) := by decide +kernel
theorem dX5_readWord_15 : decode cX5_readWord 15 = .ok (.getfield 19, 3) := by decide +kernel
theorem dX5_readWord_18 : decode cX5_readWord 18 = .ok (.aload_n 0, 1) := by decide +kernel
theorem dX5_readWord_19 : decode cX5_readWord 19 = .ok (.getfield 27, 3) := by decide +kernel
theorem dX5_readWord_22 : decode cX5_readWord 22 = .ok (.invokevirtual 63, 3) := by decide +kernel
theorem dX5_readWord_25 : decode cX5_readWord 25 = .ok (.invokestatic 67, 3) := by decide +kernel
theorem dX5_readWord_28 : decode cX5_readWord 28 = .ok (.istore_n 1, 1) := by decide +kernel
theorem dX5_readWord_29 : decode cX5_readWord 29 = .ok (.iload_n 1, 1) := by decide +kernel
theorem dX5_readWord_30 : decode cX5_readWord 30 = .ok (.ifCond .ne 13, 3) := by decide +kernel
theorem dX5_readWord_33 : decode cX5_readWord 33 = .ok (.aload_n 0, 1) := by decide +kernel
theorem dX5_readWord_34 : decode cX5_readWord 34 = .ok (.aload_n 0, 1) := by decide +kernel
theorem dX5_readWord_35 : decode cX5_readWord 35 = .ok (.getfield 27, 3) := by decide +kernel
theorem dX5_readWord_38 : decode cX5_readWord 38 = .ok (.putfield 9, 3) := by decide +kernel
theorem dX5_readWord_41 : decode cX5_readWord 41 = .ok (.iconst (-1), 1) := by decide +kernel
theorem dX5_readWord_42 : decode cX5_readWord 42 = .ok (.ireturn, 1) := by decide +kernel
theorem dX5_readWord_43 : decode cX5_readWord 43 = .ok (.aload_n 0, 1) := by decide +kernel
theorem dX5_readWord_44 : decode cX5_readWord 44 = .ok (.dup, 1) := by decide +kernel
theorem dX5_readWord_45 : decode cX5_readWord 45 = .ok (.getfield 27, 3) := by decide +kernel
theorem dX5_readWord_48 : decode cX5_readWord 48 = .ok (.iconst 1, 1) := by decide +kernel
theorem dX5_readWord_49 : decode cX5_readWord 49 = .ok (.iadd, 1) := by decide +kernel
theorem dX5_readWord_50 : decode cX5_readWord 50 = .ok (.putfield 27, 3) := by decide +kernel
theorem dX5_readWord_53 : decode cX5_readWord 53 = .ok (.iload_n 1, 1) := by decide +kernel
theorem dX5_readWord_54 : decode cX5_readWord 54 = .ok (.iload_n 2, 1) := by decide +kernel
theorem dX5_readWord_55 : decode cX5_readWord 55 = .ok (.invokestatic 71, 3) := by decide +kernel
theorem dX5_readWord_58 : decode cX5_readWord 58 = .ok (.istore_n 3, 1) := by decide +kernel
theorem dX5_readWord_59 : decode cX5_readWord 59 = .ok (.iload_n 3, 1) := by decide +kernel
theorem dX5_readWord_60 : decode cX5_readWord 60 = .ok (.iconst (-1), 1) := by decide +kernel
theorem dX5_readWord_61 : decode cX5_readWord 61 = .ok (.if_icmp .eq 5, 3) := by decide +kernel
theorem dX5_readWord_64 : decode cX5_readWord 64 = .ok (.iload_n 3, 1) := by decide +kernel
theorem dX5_readWord_65 : decode cX5_readWord 65 = .ok (.ireturn, 1) := by decide +kernel
theorem dX5_readWord_66 : decode cX5_readWord 66 = .ok (.iinc 2 1, 3) := by decide +kernel
theorem dX5_readWord_69 : decode cX5_readWord 69 = .ok (.goto (-63), 3) := by decide +kernel
theorem dX5_readWord_72 : decode cX5_readWord 72 = .ok (.iconst (-1), 1) := by decide +kernel
theorem dX5_readWord_73 : decode cX5_readWord 73 = .ok (.ireturn, 1) := by decide +kernel
theorem dX5_wordsGoingOn_0 : decode cX5_wordsGoingOn 0 = .ok (.iconst 0, 1) := by decide +kernel
theorem dX5_wordsGoingOn_1 : decode cX5_wordsGoingOn 1 = .ok (.istore_n 3, 1) := by decide +kernel
theorem dX5_wordsGoingOn_2 : decode cX5_wordsGoingOn 2 = .ok (.iconst 0, 1) := by decide +kernel
theorem dX5_wordsGoingOn_3 : decode cX5_wordsGoingOn 3 = .ok (.istore 4, 2) := by decide +kernel
theorem dX5_wordsGoingOn_5 : decode cX5_wordsGoingOn 5 = .ok (.iload 4, 2) := by decide +kernel
theorem dX5_wordsGoingOn_7 : decode cX5_wordsGoingOn 7 = .ok (.bipush 8, 2) := by decide +kernel
theorem dX5_wordsGoingOn_9 : decode cX5_wordsGoingOn 9 = .ok (.if_icmp .ge 51, 3) := by decide +kernel
theorem dX5_wordsGoingOn_12 : decode cX5_wordsGoingOn 12 = .ok (.iload 4, 2) := by decide +kernel
theorem dX5_wordsGoingOn_14 : decode cX5_wordsGoingOn 14 = .ok (.invokestatic 75, 3) := by decide +kernel
theorem dX5_wordsGoingOn_17 : decode cX5_wordsGoingOn 17 = .ok (.astore 5, 2) := by decide +kernel
theorem dX5_wordsGoingOn_19 : decode cX5_wordsGoingOn 19 = .ok (.iload_n 0, 1) := by decide +kernel
theorem dX5_wordsGoingOn_20 : decode cX5_wordsGoingOn 20 = .ok (.iload 4, 2) := by decide +kernel
theorem dX5_wordsGoingOn_22 : decode cX5_wordsGoingOn 22 = .ok (.ishr, 1) := by decide +kernel
theorem dX5_wordsGoingOn_23 : decode cX5_wordsGoingOn 23 = .ok (.iconst 1, 1) := by decide +kernel
theorem dX5_wordsGoingOn_24 : decode cX5_wordsGoingOn 24 = .ok (.iand, 1) := by decide +kernel
theorem dX5_wordsGoingOn_25 : decode cX5_wordsGoingOn 25 = .ok (.ifCond .eq 29, 3) := by decide +kernel
theorem dX5_wordsGoingOn_28 : decode cX5_wordsGoingOn 28 = .ok (.iload_n 1, 1) := by decide +kernel
theorem dX5_wordsGoingOn_29 : decode cX5_wordsGoingOn 29 = .ok (.aload 5, 2) := by decide +kernel
theorem dX5_wordsGoingOn_31 : decode cX5_wordsGoingOn 31 = .ok (.invokevirtual 79, 3) := by decide +kernel
theorem dX5_wordsGoingOn_34 : decode cX5_wordsGoingOn 34 = .ok (.if_icmp .ge 20, 3) := by decide +kernel
theorem dX5_wordsGoingOn_37 : decode cX5_wordsGoingOn 37 = .ok (.aload 5, 2) := by decide +kernel
theorem dX5_wordsGoingOn_39 : decode cX5_wordsGoingOn 39 = .ok (.iload_n 1, 1) := by decide +kernel
theorem dX5_wordsGoingOn_40 : decode cX5_wordsGoingOn 40 = .ok (.invokevirtual 84, 3) := by decide +kernel
theorem dX5_wordsGoingOn_43 : decode cX5_wordsGoingOn 43 = .ok (.iload_n 2, 1) := by decide +kernel
theorem dX5_wordsGoingOn_44 : decode cX5_wordsGoingOn 44 = .ok (.if_icmp .ne 10, 3) := by decide +kernel
theorem dX5_wordsGoingOn_47 : decode cX5_wordsGoingOn 47 = .ok (.iload_n 3, 1) := by decide +kernel
theorem dX5_wordsGoingOn_48 : decode cX5_wordsGoingOn 48 = .ok (.iconst 1, 1) := by decide +kernel
theorem dX5_wordsGoingOn_49 : decode cX5_wordsGoingOn 49 = .ok (.iload 4, 2) := by decide +kernel
theorem dX5_wordsGoingOn_51 : decode cX5_wordsGoingOn 51 = .ok (.ishl, 1) := by decide +kernel
theorem dX5_wordsGoingOn_52 : decode cX5_wordsGoingOn 52 = .ok (.ior, 1) := by decide +kernel
theorem dX5_wordsGoingOn_53 : decode cX5_wordsGoingOn 53 = .ok (.istore_n 3, 1) := by decide +kernel
theorem dX5_wordsGoingOn_54 : decode cX5_wordsGoingOn 54 = .ok (.iinc 4 1, 3) := by decide +kernel
theorem dX5_wordsGoingOn_57 : decode cX5_wordsGoingOn 57 = .ok (.goto (-52), 3) := by decide +kernel
theorem dX5_wordsGoingOn_60 : decode cX5_wordsGoingOn 60 = .ok (.iload_n 3, 1) := by decide +kernel
theorem dX5_wordsGoingOn_61 : decode cX5_wordsGoingOn 61 = .ok (.ireturn, 1) := by decide +kernel
theorem dX5_wordEndingBehind_0 : decode cX5_wordEndingBehind 0 = .ok (.iconst 0, 1) := by decide +kernel
theorem dX5_wordEndingBehind_1 : decode cX5_wordEndingBehind 1 = .ok (.istore_n 2, 1) := by decide +kernel
theorem dX5_wordEndingBehind_2 : decode cX5_wordEndingBehind 2 = .ok (.iload_n 2, 1) := by decide +kernel
theorem dX5_wordEndingBehind_3 : decode cX5_wordEndingBehind 3 = .ok (.bipush 8, 2) := by decide +kernel
theorem dX5_wordEndingBehind_5 : decode cX5_wordEndingBehind 5 = .ok (.if_icmp .ge 32, 3) := by decide +kernel
theorem dX5_wordEndingBehind_8 : decode cX5_wordEndingBehind 8 = .ok (.iload_n 0, 1) := by decide +kernel
theorem dX5_wordEndingBehind_9 : decode cX5_wordEndingBehind 9 = .ok (.iload_n 2, 1) := by decide +kernel
theorem dX5_wordEndingBehind_10 : decode cX5_wordEndingBehind 10 = .ok (.ishr, 1) := by decide +kernel
theorem dX5_wordEndingBehind_11 : decode cX5_wordEndingBehind 11 = .ok (.iconst 1, 1) := by decide +kernel
theorem dX5_wordEndingBehind_12 : decode cX5_wordEndingBehind 12 = .ok (.iand, 1) := by decide +kernel
theorem dX5_wordEndingBehind_13 : decode cX5_wordEndingBehind 13 = .ok (.ifCond .eq 18, 3) := by decide +kernel
theorem dX5_wordEndingBehind_16 : decode cX5_wordEndingBehind 16 = .ok (.iload_n 2, 1) := by decide +kernel
theorem dX5_wordEndingBehind_17 : decode cX5_wordEndingBehind 17 = .ok (.invokestatic 75, 3) := by decide +kernel
theorem dX5_wordEndingBehind_20 : decode cX5_wordEndingBehind 20 = .ok (.invokevirtual 79, 3) := by decide +kernel
theorem dX5_wordEndingBehind_23 : decode cX5_wordEndingBehind 23 = .ok (.iload_n 1, 1) := by decide +kernel
theorem dX5_wordEndingBehind_24 : decode cX5_wordEndingBehind 24 = .ok (.iconst 1, 1) := by decide +kernel
theorem dX5_wordEndingBehind_25 : decode cX5_wordEndingBehind 25 = .ok (.iadd, 1) := by decide +kernel
theorem dX5_wordEndingBehind_26 : decode cX5_wordEndingBehind 26 = .ok (.if_icmp .ne 5, 3) := by decide +kernel
theorem dX5_wordEndingBehind_29 : decode cX5_wordEndingBehind 29 = .ok (.iload_n 2, 1) := by decide +kernel
theorem dX5_wordEndingBehind_30 : decode cX5_wordEndingBehind 30 = .ok (.ireturn, 1) := by decide +kernel
theorem dX5_wordEndingBehind_31 : decode cX5_wordEndingBehind 31 = .ok (.iinc 2 1, 3) := by decide +kernel
theorem dX5_wordEndingBehind_34 : decode cX5_wordEndingBehind 34 = .ok (.goto (-32), 3) := by decide +kernel
theorem dX5_wordEndingBehind_37 : decode cX5_wordEndingBehind 37 = .ok (.iconst (-1), 1) := by decide +kernel
theorem dX5_wordEndingBehind_38 : decode cX5_wordEndingBehind 38 = .ok (.ireturn, 1) := by decide +kernel
theorem dX5_spelling_0 : decode cX5_spelling 0 = .ok (.iload_n 0, 1) := by decide +kernel
theorem dX5_spelling_1 : decode cX5_spelling 1 = .ok (.tableswitch 64 0 6 #[43, 46, 49, 52, 55, 58, 61], 43) := by decide +kernel
theorem dX5_spelling_44 : decode cX5_spelling 44 = .ok (.ldc 88, 2) := by decide +kernel
theorem dX5_spelling_46 : decode cX5_spelling 46 = .ok (.areturn, 1) := by decide +kernel
theorem dX5_spelling_47 : decode cX5_spelling 47 = .ok (.ldc 90, 2) := by decide +kernel
theorem dX5_spelling_49 : decode cX5_spelling 49 = .ok (.areturn, 1) := by decide +kernel
theorem dX5_spelling_50 : decode cX5_spelling 50 = .ok (.ldc 92, 2) := by decide +kernel
theorem dX5_spelling_52 : decode cX5_spelling 52 = .ok (.areturn, 1) := by decide +kernel
theorem dX5_spelling_53 : decode cX5_spelling 53 = .ok (.ldc 94, 2) := by decide +kernel
theorem dX5_spelling_55 : decode cX5_spelling 55 = .ok (.areturn, 1) := by decide +kernel
theorem dX5_spelling_56 : decode cX5_spelling 56 = .ok (.ldc 96, 2) := by decide +kernel
theorem dX5_spelling_58 : decode cX5_spelling 58 = .ok (.areturn, 1) := by decide +kernel
theorem dX5_spelling_59 : decode cX5_spelling 59 = .ok (.ldc 98, 2) := by decide +kernel
theorem dX5_spelling_61 : decode cX5_spelling 61 = .ok (.areturn, 1) := by decide +kernel
theorem dX5_spelling_62 : decode cX5_spelling 62 = .ok (.ldc 100, 2) := by decide +kernel
theorem dX5_spelling_64 : decode cX5_spelling 64 = .ok (.areturn, 1) := by decide +kernel
theorem dX5_spelling_65 : decode cX5_spelling 65 = .ok (.ldc 102, 2) := by decide +kernel
theorem dX5_spelling_67 : decode cX5_spelling 67 = .ok (.areturn, 1) := by decide +kernel
theorem dX5_readNumbers_0 : decode cX5_readNumbers 0 = .ok (.iconst 0, 1) := by decide +kernel
theorem dX5_readNumbers_1 : decode cX5_readNumbers 1 = .ok (.istore_n 2, 1) := by decide +kernel
theorem dX5_readNumbers_2 : decode cX5_readNumbers 2 = .ok (.iload_n 2, 1) := by decide +kernel
theorem dX5_readNumbers_3 : decode cX5_readNumbers 3 = .ok (.iconst 4, 1) := by decide +kernel
theorem dX5_readNumbers_4 : decode cX5_readNumbers 4 = .ok (.if_icmp .ge 73, 3) := by decide +kernel
theorem dX5_readNumbers_7 : decode cX5_readNumbers 7 = .ok (.getstatic 104, 3) := by decide +kernel
theorem dX5_readNumbers_10 : decode cX5_readNumbers 10 = .ok (.iload_n 1, 1) := by decide +kernel
theorem dX5_readNumbers_11 : decode cX5_readNumbers 11 = .ok (.iconst 4, 1) := by decide +kernel
theorem dX5_readNumbers_12 : decode cX5_readNumbers 12 = .ok (.imul, 1) := by decide +kernel
theorem dX5_readNumbers_13 : decode cX5_readNumbers 13 = .ok (.iload_n 2, 1) := by decide +kernel
theorem dX5_readNumbers_14 : decode cX5_readNumbers 14 = .ok (.iadd, 1) := by decide +kernel
theorem dX5_readNumbers_15 : decode cX5_readNumbers 15 = .ok (.iaload, 1) := by decide +kernel
theorem dX5_readNumbers_16 : decode cX5_readNumbers 16 = .ok (.istore_n 3, 1) := by decide +kernel
theorem dX5_readNumbers_17 : decode cX5_readNumbers 17 = .ok (.iload_n 3, 1) := by decide +kernel
theorem dX5_readNumbers_18 : decode cX5_readNumbers 18 = .ok (.ifCond .ne 5, 3) := by decide +kernel
theorem dX5_readNumbers_21 : decode cX5_readNumbers 21 = .ok (.iconst 1, 1) := by decide +kernel
theorem dX5_readNumbers_22 : decode cX5_readNumbers 22 = .ok (.ireturn, 1) := by decide +kernel
theorem dX5_readNumbers_23 : decode cX5_readNumbers 23 = .ok (.aload_n 0, 1) := by decide +kernel
theorem dX5_readNumbers_24 : decode cX5_readNumbers 24 = .ok (.bipush 32, 2) := by decide +kernel
theorem dX5_readNumbers_26 : decode cX5_readNumbers 26 = .ok (.invokevirtual 43, 3) := by decide +kernel
theorem dX5_readNumbers_29 : decode cX5_readNumbers 29 = .ok (.ifCond .ne 5, 3) := by decide +kernel
theorem dX5_readNumbers_32 : decode cX5_readNumbers 32 = .ok (.iconst 0, 1) := by decide +kernel
theorem dX5_readNumbers_33 : decode cX5_readNumbers 33 = .ok (.ireturn, 1) := by decide +kernel
theorem dX5_readNumbers_34 : decode cX5_readNumbers 34 = .ok (.aload_n 0, 1) := by decide +kernel
theorem dX5_readNumbers_35 : decode cX5_readNumbers 35 = .ok (.getfield 15, 3) := by decide +kernel
theorem dX5_readNumbers_38 : decode cX5_readNumbers 38 = .ok (.iload_n 2, 1) := by decide +kernel
theorem dX5_readNumbers_39 : decode cX5_readNumbers 39 = .ok (.aload_n 0, 1) := by decide +kernel
theorem dX5_readNumbers_40 : decode cX5_readNumbers 40 = .ok (.iload_n 3, 1) := by decide +kernel
theorem dX5_readNumbers_41 : decode cX5_readNumbers 41 = .ok (.iconst 2, 1) := by decide +kernel
theorem dX5_readNumbers_42 : decode cX5_readNumbers 42 = .ok (.if_icmp .ne 7, 3) := by decide +kernel
theorem dX5_readNumbers_45 : decode cX5_readNumbers 45 = .ok (.iconst 1, 1) := by decide +kernel
theorem dX5_readNumbers_46 : decode cX5_readNumbers 46 = .ok (.goto 4, 3) := by decide +kernel
theorem dX5_readNumbers_49 : decode cX5_readNumbers 49 = .ok (.iconst 0, 1) := by decide +kernel
theorem dX5_readNumbers_50 : decode cX5_readNumbers 50 = .ok (.aload_n 0, 1) := by decide +kernel
theorem dX5_readNumbers_51 : decode cX5_readNumbers 51 = .ok (.iload_n 3, 1) := by decide +kernel
theorem dX5_readNumbers_52 : decode cX5_readNumbers 52 = .ok (.invokevirtual 107, 3) := by decide +kernel
theorem dX5_readNumbers_55 : decode cX5_readNumbers 55 = .ok (.invokevirtual 110, 3) := by decide +kernel
theorem dX5_readNumbers_58 : decode cX5_readNumbers 58 = .ok (.iastore, 1) := by decide +kernel
theorem dX5_readNumbers_59 : decode cX5_readNumbers 59 = .ok (.aload_n 0, 1) := by decide +kernel
theorem dX5_readNumbers_60 : decode cX5_readNumbers 60 = .ok (.getfield 15, 3) := by decide +kernel
theorem dX5_readNumbers_63 : decode cX5_readNumbers 63 = .ok (.iload_n 2, 1) := by decide +kernel
theorem dX5_readNumbers_64 : decode cX5_readNumbers 64 = .ok (.iaload, 1) := by decide +kernel
theorem dX5_readNumbers_65 : decode cX5_readNumbers 65 = .ok (.iconst (-1), 1) := by decide +kernel
theorem dX5_readNumbers_66 : decode cX5_readNumbers 66 = .ok (.if_icmp .ne 5, 3) := by decide +kernel
theorem dX5_readNumbers_69 : decode cX5_readNumbers 69 = .ok (.iconst 0, 1) := by decide +kernel
theorem dX5_readNumbers_70 : decode cX5_readNumbers 70 = .ok (.ireturn, 1) := by decide +kernel
theorem dX5_readNumbers_71 : decode cX5_readNumbers 71 = .ok (.iinc 2 1, 3) := by decide +kernel
theorem dX5_readNumbers_74 : decode cX5_readNumbers 74 = .ok (.goto (-72), 3) := by decide +kernel
theorem dX5_readNumbers_77 : decode cX5_readNumbers 77 = .ok (.iconst 1, 1) := by decide +kernel
theorem dX5_readNumbers_78 : decode cX5_readNumbers 78 = .ok (.ireturn, 1) := by decide +kernel
theorem dX5_highest_0 : decode cX5_highest 0 = .ok (.iload_n 1, 1) := by decide +kernel
theorem dX5_highest_1 : decode cX5_highest 1 = .ok (.tableswitch 57 3 6 #[31, 34, 37, 47], 31) := by decide +kernel
theorem dX5_highest_32 : decode cX5_highest 32 = .ok (.bipush 6, 2) := by decide +kernel
theorem dX5_highest_34 : decode cX5_highest 34 = .ok (.ireturn, 1) := by decide +kernel
theorem dX5_highest_35 : decode cX5_highest 35 = .ok (.bipush 11, 2) := by decide +kernel
theorem dX5_highest_37 : decode cX5_highest 37 = .ok (.ireturn, 1) := by decide +kernel
theorem dX5_highest_38 : decode cX5_highest 38 = .ok (.aload_n 0, 1) := by decide +kernel
theorem dX5_highest_39 : decode cX5_highest 39 = .ok (.getfield 23, 3) := by decide +kernel
theorem dX5_highest_42 : decode cX5_highest 42 = .ok (.getfield 113, 3) := by decide +kernel
theorem dX5_highest_45 : decode cX5_highest 45 = .ok (.iconst 1, 1) := by decide +kernel
theorem dX5_highest_46 : decode cX5_highest 46 = .ok (.isub, 1) := by decide +kernel
theorem dX5_highest_47 : decode cX5_highest 47 = .ok (.ireturn, 1) := by decide +kernel
theorem dX5_highest_48 : decode cX5_highest 48 = .ok (.aload_n 0, 1) := by decide +kernel
theorem dX5_highest_49 : decode cX5_highest 49 = .ok (.getfield 23, 3) := by decide +kernel
theorem dX5_highest_52 : decode cX5_highest 52 = .ok (.getfield 116, 3) := by decide +kernel
theorem dX5_highest_55 : decode cX5_highest 55 = .ok (.iconst 1, 1) := by decide +kernel
theorem dX5_highest_56 : decode cX5_highest 56 = .ok (.isub, 1) := by decide +kernel
theorem dX5_highest_57 : decode cX5_highest 57 = .ok (.ireturn, 1) := by decide +kernel
theorem dX5_highest_58 : decode cX5_highest 58 = .ok (.bipush 9, 2) := by decide +kernel
theorem dX5_highest_60 : decode cX5_highest 60 = .ok (.ireturn, 1) := by decide +kernel
theorem dX5_readSign_0 : decode cX5_readSign 0 = .ok (.aload_n 0, 1) := by decide +kernel
theorem dX5_readSign_1 : decode cX5_readSign 1 = .ok (.getfield 19, 3) := by decide +kernel
theorem dX5_readSign_4 : decode cX5_readSign 4 = .ok (.aload_n 0, 1) := by decide +kernel
theorem dX5_readSign_5 : decode cX5_readSign 5 = .ok (.getfield 27, 3) := by decide +kernel
theorem dX5_readSign_8 : decode cX5_readSign 8 = .ok (.invokevirtual 63, 3) := by decide +kernel
theorem dX5_readSign_11 : decode cX5_readSign 11 = .ok (.iload_n 1, 1) := by decide +kernel
theorem dX5_readSign_12 : decode cX5_readSign 12 = .ok (.if_icmp .eq 13, 3) := by decide +kernel
theorem dX5_readSign_15 : decode cX5_readSign 15 = .ok (.aload_n 0, 1) := by decide +kernel
theorem dX5_readSign_16 : decode cX5_readSign 16 = .ok (.aload_n 0, 1) := by decide +kernel
theorem dX5_readSign_17 : decode cX5_readSign 17 = .ok (.getfield 27, 3) := by decide +kernel
theorem dX5_readSign_20 : decode cX5_readSign 20 = .ok (.putfield 9, 3) := by decide +kernel
theorem dX5_readSign_23 : decode cX5_readSign 23 = .ok (.iconst 0, 1) := by decide +kernel
theorem dX5_readSign_24 : decode cX5_readSign 24 = .ok (.ireturn, 1) := by decide +kernel
theorem dX5_readSign_25 : decode cX5_readSign 25 = .ok (.aload_n 0, 1) := by decide +kernel
theorem dX5_readSign_26 : decode cX5_readSign 26 = .ok (.dup, 1) := by decide +kernel
theorem dX5_readSign_27 : decode cX5_readSign 27 = .ok (.getfield 27, 3) := by decide +kernel
theorem dX5_readSign_30 : decode cX5_readSign 30 = .ok (.iconst 1, 1) := by decide +kernel
theorem dX5_readSign_31 : decode cX5_readSign 31 = .ok (.iadd, 1) := by decide +kernel
theorem dX5_readSign_32 : decode cX5_readSign 32 = .ok (.putfield 27, 3) := by decide +kernel
theorem dX5_readSign_35 : decode cX5_readSign 35 = .ok (.iconst 1, 1) := by decide +kernel
theorem dX5_readSign_36 : decode cX5_readSign 36 = .ok (.ireturn, 1) := by decide +kernel
theorem dX5_readNumber_0 : decode cX5_readNumber 0 = .ok (.aload_n 0, 1) := by decide +kernel
theorem dX5_readNumber_1 : decode cX5_readNumber 1 = .ok (.getfield 27, 3) := by decide +kernel
theorem dX5_readNumber_4 : decode cX5_readNumber 4 = .ok (.istore_n 3, 1) := by decide +kernel
theorem dX5_readNumber_5 : decode cX5_readNumber 5 = .ok (.aload_n 0, 1) := by decide +kernel
theorem dX5_readNumber_6 : decode cX5_readNumber 6 = .ok (.aload_n 0, 1) := by decide +kernel
theorem dX5_readNumber_7 : decode cX5_readNumber 7 = .ok (.getfield 27, 3) := by decide +kernel
theorem dX5_readNumber_10 : decode cX5_readNumber 10 = .ok (.invokevirtual 119, 3) := by decide +kernel
theorem dX5_readNumber_13 : decode cX5_readNumber 13 = .ok (.ifCond .ne 13, 3) := by decide +kernel
theorem dX5_readNumber_16 : decode cX5_readNumber 16 = .ok (.aload_n 0, 1) := by decide +kernel
theorem dX5_readNumber_17 : decode cX5_readNumber 17 = .ok (.aload_n 0, 1) := by decide +kernel
theorem dX5_readNumber_18 : decode cX5_readNumber 18 = .ok (.getfield 27, 3) := by decide +kernel
theorem dX5_readNumber_21 : decode cX5_readNumber 21 = .ok (.putfield 9, 3) := by decide +kernel
theorem dX5_readNumber_24 : decode cX5_readNumber 24 = .ok (.iconst (-1), 1) := by decide +kernel
theorem dX5_readNumber_25 : decode cX5_readNumber 25 = .ok (.ireturn, 1) := by decide +kernel
theorem dX5_readNumber_26 : decode cX5_readNumber 26 = .ok (.aload_n 0, 1) := by decide +kernel
theorem dX5_readNumber_27 : decode cX5_readNumber 27 = .ok (.invokevirtual 122, 3) := by decide +kernel
theorem dX5_readNumber_30 : decode cX5_readNumber 30 = .ok (.istore 4, 2) := by decide +kernel
theorem dX5_readNumber_32 : decode cX5_readNumber 32 = .ok (.aload_n 0, 1) := by decide +kernel
theorem dX5_readNumber_33 : decode cX5_readNumber 33 = .ok (.aload_n 0, 1) := by decide +kernel
theorem dX5_readNumber_34 : decode cX5_readNumber 34 = .ok (.getfield 27, 3) := by decide +kernel
theorem dX5_readNumber_37 : decode cX5_readNumber 37 = .ok (.invokevirtual 119, 3) := by decide +kernel
theorem dX5_readNumber_40 : decode cX5_readNumber 40 = .ok (.ifCond .eq 15, 3) := by decide +kernel
theorem dX5_readNumber_43 : decode cX5_readNumber 43 = .ok (.bipush 10, 2) := by decide +kernel
theorem dX5_readNumber_45 : decode cX5_readNumber 45 = .ok (.iload 4, 2) := by decide +kernel
theorem dX5_readNumber_47 : decode cX5_readNumber 47 = .ok (.imul, 1) := by decide +kernel
theorem dX5_readNumber_48 : decode cX5_readNumber 48 = .ok (.aload_n 0, 1) := by decide +kernel
theorem dX5_readNumber_49 : decode cX5_readNumber 49 = .ok (.invokevirtual 122, 3) := by decide +kernel
theorem dX5_readNumber_52 : decode cX5_readNumber 52 = .ok (.iadd, 1) := by decide +kernel
theorem dX5_readNumber_53 : decode cX5_readNumber 53 = .ok (.istore 4, 2) := by decide +kernel
theorem dX5_readNumber_55 : decode cX5_readNumber 55 = .ok (.iload 4, 2) := by decide +kernel
theorem dX5_readNumber_57 : decode cX5_readNumber 57 = .ok (.iload_n 1, 1) := by decide +kernel
theorem dX5_readNumber_58 : decode cX5_readNumber 58 = .ok (.iload_n 2, 1) := by decide +kernel
theorem dX5_readNumber_59 : decode cX5_readNumber 59 = .ok (.invokestatic 125, 3) := by decide +kernel
theorem dX5_readNumber_62 : decode cX5_readNumber 62 = .ok (.ifCond .ne 10, 3) := by decide +kernel
theorem dX5_readNumber_65 : decode cX5_readNumber 65 = .ok (.aload_n 0, 1) := by decide +kernel
theorem dX5_readNumber_66 : decode cX5_readNumber 66 = .ok (.iload_n 3, 1) := by decide +kernel
theorem dX5_readNumber_67 : decode cX5_readNumber 67 = .ok (.putfield 9, 3) := by decide +kernel
theorem dX5_readNumber_70 : decode cX5_readNumber 70 = .ok (.iconst (-1), 1) := by decide +kernel
theorem dX5_readNumber_71 : decode cX5_readNumber 71 = .ok (.ireturn, 1) := by decide +kernel
theorem dX5_readNumber_72 : decode cX5_readNumber 72 = .ok (.iload 4, 2) := by decide +kernel
theorem dX5_readNumber_74 : decode cX5_readNumber 74 = .ok (.ireturn, 1) := by decide +kernel
theorem dX5_isDigitSign_0 : decode cX5_isDigitSign 0 = .ok (.aload_n 0, 1) := by decide +kernel
theorem dX5_isDigitSign_1 : decode cX5_isDigitSign 1 = .ok (.getfield 19, 3) := by decide +kernel
theorem dX5_isDigitSign_4 : decode cX5_isDigitSign 4 = .ok (.iload_n 1, 1) := by decide +kernel
theorem dX5_isDigitSign_5 : decode cX5_isDigitSign 5 = .ok (.invokevirtual 63, 3) := by decide +kernel
theorem dX5_isDigitSign_8 : decode cX5_isDigitSign 8 = .ok (.bipush 48, 2) := by decide +kernel
theorem dX5_isDigitSign_10 : decode cX5_isDigitSign 10 = .ok (.bipush 57, 2) := by decide +kernel
theorem dX5_isDigitSign_12 : decode cX5_isDigitSign 12 = .ok (.invokestatic 125, 3) := by decide +kernel
theorem dX5_isDigitSign_15 : decode cX5_isDigitSign 15 = .ok (.ireturn, 1) := by decide +kernel
theorem dX5_takeDigit_0 : decode cX5_takeDigit 0 = .ok (.aload_n 0, 1) := by decide +kernel
theorem dX5_takeDigit_1 : decode cX5_takeDigit 1 = .ok (.getfield 19, 3) := by decide +kernel
theorem dX5_takeDigit_4 : decode cX5_takeDigit 4 = .ok (.aload_n 0, 1) := by decide +kernel
theorem dX5_takeDigit_5 : decode cX5_takeDigit 5 = .ok (.getfield 27, 3) := by decide +kernel
theorem dX5_takeDigit_8 : decode cX5_takeDigit 8 = .ok (.invokevirtual 63, 3) := by decide +kernel
theorem dX5_takeDigit_11 : decode cX5_takeDigit 11 = .ok (.bipush 48, 2) := by decide +kernel
theorem dX5_takeDigit_13 : decode cX5_takeDigit 13 = .ok (.isub, 1) := by decide +kernel
theorem dX5_takeDigit_14 : decode cX5_takeDigit 14 = .ok (.istore_n 1, 1) := by decide +kernel
theorem dX5_takeDigit_15 : decode cX5_takeDigit 15 = .ok (.aload_n 0, 1) := by decide +kernel
theorem dX5_takeDigit_16 : decode cX5_takeDigit 16 = .ok (.dup, 1) := by decide +kernel
theorem dX5_takeDigit_17 : decode cX5_takeDigit 17 = .ok (.getfield 27, 3) := by decide +kernel
theorem dX5_takeDigit_20 : decode cX5_takeDigit 20 = .ok (.iconst 1, 1) := by decide +kernel
theorem dX5_takeDigit_21 : decode cX5_takeDigit 21 = .ok (.iadd, 1) := by decide +kernel
theorem dX5_takeDigit_22 : decode cX5_takeDigit 22 = .ok (.putfield 27, 3) := by decide +kernel
theorem dX5_takeDigit_25 : decode cX5_takeDigit 25 = .ok (.iload_n 1, 1) := by decide +kernel
theorem dX5_takeDigit_26 : decode cX5_takeDigit 26 = .ok (.ireturn, 1) := by decide +kernel
theorem dX5_tell_0 : decode cX5_tell 0 = .ok (.iload_n 1, 1) := by decide +kernel
theorem dX5_tell_1 : decode cX5_tell 1 = .ok (.tableswitch 221 0 6 #[43, 60, 83, 116, 154, 180, 201], 43) := by decide +kernel
theorem dX5_tell_44 : decode cX5_tell 44 = .ok (.aload_n 0, 1) := by decide +kernel
theorem dX5_tell_45 : decode cX5_tell 45 = .ok (.getfield 23, 3) := by decide +kernel
theorem dX5_tell_48 : decode cX5_tell 48 = .ok (.aload_n 0, 1) := by decide +kernel
theorem dX5_tell_49 : decode cX5_tell 49 = .ok (.getfield 15, 3) := by decide +kernel
theorem dX5_tell_52 : decode cX5_tell 52 = .ok (.iconst 0, 1) := by decide +kernel
theorem dX5_tell_53 : decode cX5_tell 53 = .ok (.iaload, 1) := by decide +kernel
theorem dX5_tell_54 : decode cX5_tell 54 = .ok (.invokevirtual 129, 3) := by decide +kernel
theorem dX5_tell_57 : decode cX5_tell 57 = .ok (.pop, 1) := by decide +kernel
theorem dX5_tell_58 : decode cX5_tell 58 = .ok (.goto 172, 3) := by decide +kernel
theorem dX5_tell_61 : decode cX5_tell 61 = .ok (.aload_n 0, 1) := by decide +kernel
theorem dX5_tell_62 : decode cX5_tell 62 = .ok (.getfield 23, 3) := by decide +kernel
theorem dX5_tell_65 : decode cX5_tell 65 = .ok (.aload_n 0, 1) := by decide +kernel
theorem dX5_tell_66 : decode cX5_tell 66 = .ok (.getfield 15, 3) := by decide +kernel
theorem dX5_tell_69 : decode cX5_tell 69 = .ok (.iconst 0, 1) := by decide +kernel
theorem dX5_tell_70 : decode cX5_tell 70 = .ok (.iaload, 1) := by decide +kernel
theorem dX5_tell_71 : decode cX5_tell 71 = .ok (.aload_n 0, 1) := by decide +kernel
theorem dX5_tell_72 : decode cX5_tell 72 = .ok (.getfield 15, 3) := by decide +kernel
theorem dX5_tell_75 : decode cX5_tell 75 = .ok (.iconst 1, 1) := by decide +kernel
theorem dX5_tell_76 : decode cX5_tell 76 = .ok (.iaload, 1) := by decide +kernel
theorem dX5_tell_77 : decode cX5_tell 77 = .ok (.invokevirtual 132, 3) := by decide +kernel
theorem dX5_tell_80 : decode cX5_tell 80 = .ok (.pop, 1) := by decide +kernel
theorem dX5_tell_81 : decode cX5_tell 81 = .ok (.goto 149, 3) := by decide +kernel
theorem dX5_tell_84 : decode cX5_tell 84 = .ok (.aload_n 0, 1) := by decide +kernel
theorem dX5_tell_85 : decode cX5_tell 85 = .ok (.getfield 23, 3) := by decide +kernel
theorem dX5_tell_88 : decode cX5_tell 88 = .ok (.getfield 135, 3) := by decide +kernel
theorem dX5_tell_91 : decode cX5_tell 91 = .ok (.aload_n 0, 1) := by decide +kernel
theorem dX5_tell_92 : decode cX5_tell 92 = .ok (.getfield 15, 3) := by decide +kernel
theorem dX5_tell_95 : decode cX5_tell 95 = .ok (.iconst 0, 1) := by decide +kernel
theorem dX5_tell_96 : decode cX5_tell 96 = .ok (.iaload, 1) := by decide +kernel
theorem dX5_tell_97 : decode cX5_tell 97 = .ok (.aaload, 1) := by decide +kernel
theorem dX5_tell_98 : decode cX5_tell 98 = .ok (.getfield 139, 3) := by decide +kernel
theorem dX5_tell_101 : decode cX5_tell 101 = .ok (.aload_n 0, 1) := by decide +kernel
theorem dX5_tell_102 : decode cX5_tell 102 = .ok (.getfield 15, 3) := by decide +kernel
theorem dX5_tell_105 : decode cX5_tell 105 = .ok (.iconst 1, 1) := by decide +kernel
theorem dX5_tell_106 : decode cX5_tell 106 = .ok (.iaload, 1) := by decide +kernel
theorem dX5_tell_107 : decode cX5_tell 107 = .ok (.aload_n 0, 1) := by decide +kernel
theorem dX5_tell_108 : decode cX5_tell 108 = .ok (.getfield 15, 3) := by decide +kernel
theorem dX5_tell_111 : decode cX5_tell 111 = .ok (.iconst 2, 1) := by decide +kernel
theorem dX5_tell_112 : decode cX5_tell 112 = .ok (.iaload, 1) := by decide +kernel
theorem dX5_tell_113 : decode cX5_tell 113 = .ok (.iastore, 1) := by decide +kernel
theorem dX5_tell_114 : decode cX5_tell 114 = .ok (.goto 116, 3) := by decide +kernel
theorem dX5_tell_117 : decode cX5_tell 117 = .ok (.aload_n 0, 1) := by decide +kernel
theorem dX5_tell_118 : decode cX5_tell 118 = .ok (.getfield 23, 3) := by decide +kernel
theorem dX5_tell_121 : decode cX5_tell 121 = .ok (.getfield 144, 3) := by decide +kernel
theorem dX5_tell_124 : decode cX5_tell 124 = .ok (.aload_n 0, 1) := by decide +kernel
theorem dX5_tell_125 : decode cX5_tell 125 = .ok (.getfield 15, 3) := by decide +kernel
theorem dX5_tell_128 : decode cX5_tell 128 = .ok (.iconst 0, 1) := by decide +kernel
theorem dX5_tell_129 : decode cX5_tell 129 = .ok (.iaload, 1) := by decide +kernel
theorem dX5_tell_130 : decode cX5_tell 130 = .ok (.aaload, 1) := by decide +kernel
theorem dX5_tell_131 : decode cX5_tell 131 = .ok (.aload_n 0, 1) := by decide +kernel
theorem dX5_tell_132 : decode cX5_tell 132 = .ok (.getfield 15, 3) := by decide +kernel
theorem dX5_tell_135 : decode cX5_tell 135 = .ok (.iconst 1, 1) := by decide +kernel
theorem dX5_tell_136 : decode cX5_tell 136 = .ok (.iaload, 1) := by decide +kernel
theorem dX5_tell_137 : decode cX5_tell 137 = .ok (.aload_n 0, 1) := by decide +kernel
theorem dX5_tell_138 : decode cX5_tell 138 = .ok (.getfield 15, 3) := by decide +kernel
theorem dX5_tell_141 : decode cX5_tell 141 = .ok (.iconst 2, 1) := by decide +kernel
theorem dX5_tell_142 : decode cX5_tell 142 = .ok (.iaload, 1) := by decide +kernel
theorem dX5_tell_143 : decode cX5_tell 143 = .ok (.aload_n 0, 1) := by decide +kernel
theorem dX5_tell_144 : decode cX5_tell 144 = .ok (.getfield 15, 3) := by decide +kernel
theorem dX5_tell_147 : decode cX5_tell 147 = .ok (.iconst 3, 1) := by decide +kernel
theorem dX5_tell_148 : decode cX5_tell 148 = .ok (.iaload, 1) := by decide +kernel
theorem dX5_tell_149 : decode cX5_tell 149 = .ok (.invokevirtual 148, 3) := by decide +kernel
theorem dX5_tell_152 : decode cX5_tell 152 = .ok (.goto 78, 3) := by decide +kernel
theorem dX5_tell_155 : decode cX5_tell 155 = .ok (.aload_n 0, 1) := by decide +kernel
theorem dX5_tell_156 : decode cX5_tell 156 = .ok (.getfield 23, 3) := by decide +kernel
theorem dX5_tell_159 : decode cX5_tell 159 = .ok (.getfield 144, 3) := by decide +kernel
theorem dX5_tell_162 : decode cX5_tell 162 = .ok (.aload_n 0, 1) := by decide +kernel
theorem dX5_tell_163 : decode cX5_tell 163 = .ok (.getfield 15, 3) := by decide +kernel
theorem dX5_tell_166 : decode cX5_tell 166 = .ok (.iconst 0, 1) := by decide +kernel
theorem dX5_tell_167 : decode cX5_tell 167 = .ok (.iaload, 1) := by decide +kernel
theorem dX5_tell_168 : decode cX5_tell 168 = .ok (.aaload, 1) := by decide +kernel
theorem dX5_tell_169 : decode cX5_tell 169 = .ok (.aload_n 0, 1) := by decide +kernel
theorem dX5_tell_170 : decode cX5_tell 170 = .ok (.getfield 15, 3) := by decide +kernel
theorem dX5_tell_173 : decode cX5_tell 173 = .ok (.iconst 1, 1) := by decide +kernel
theorem dX5_tell_174 : decode cX5_tell 174 = .ok (.iaload, 1) := by decide +kernel
theorem dX5_tell_175 : decode cX5_tell 175 = .ok (.putfield 154, 3) := by decide +kernel
theorem dX5_tell_178 : decode cX5_tell 178 = .ok (.goto 52, 3) := by decide +kernel
theorem dX5_tell_181 : decode cX5_tell 181 = .ok (.aload_n 0, 1) := by decide +kernel
theorem dX5_tell_182 : decode cX5_tell 182 = .ok (.getfield 23, 3) := by decide +kernel
theorem dX5_tell_185 : decode cX5_tell 185 = .ok (.getfield 144, 3) := by decide +kernel
theorem dX5_tell_188 : decode cX5_tell 188 = .ok (.aload_n 0, 1) := by decide +kernel
theorem dX5_tell_189 : decode cX5_tell 189 = .ok (.getfield 15, 3) := by decide +kernel
theorem dX5_tell_192 : decode cX5_tell 192 = .ok (.iconst 0, 1) := by decide +kernel
theorem dX5_tell_193 : decode cX5_tell 193 = .ok (.iaload, 1) := by decide +kernel
theorem dX5_tell_194 : decode cX5_tell 194 = .ok (.aaload, 1) := by decide +kernel
theorem dX5_tell_195 : decode cX5_tell 195 = .ok (.iconst (-1), 1) := by decide +kernel
theorem dX5_tell_196 : decode cX5_tell 196 = .ok (.putfield 154, 3) := by decide +kernel
theorem dX5_tell_199 : decode cX5_tell 199 = .ok (.goto 31, 3) := by decide +kernel
theorem dX5_tell_202 : decode cX5_tell 202 = .ok (.aload_n 0, 1) := by decide +kernel
theorem dX5_tell_203 : decode cX5_tell 203 = .ok (.getfield 23, 3) := by decide +kernel
theorem dX5_tell_206 : decode cX5_tell 206 = .ok (.getfield 144, 3) := by decide +kernel
theorem dX5_tell_209 : decode cX5_tell 209 = .ok (.aload_n 0, 1) := by decide +kernel
theorem dX5_tell_210 : decode cX5_tell 210 = .ok (.getfield 15, 3) := by decide +kernel
theorem dX5_tell_213 : decode cX5_tell 213 = .ok (.iconst 0, 1) := by decide +kernel
theorem dX5_tell_214 : decode cX5_tell 214 = .ok (.iaload, 1) := by decide +kernel
theorem dX5_tell_215 : decode cX5_tell 215 = .ok (.aaload, 1) := by decide +kernel
theorem dX5_tell_216 : decode cX5_tell 216 = .ok (.invokevirtual 157, 3) := by decide +kernel
theorem dX5_tell_219 : decode cX5_tell 219 = .ok (.goto 11, 3) := by decide +kernel
theorem dX5_tell_222 : decode cX5_tell 222 = .ok (.aload_n 0, 1) := by decide +kernel
theorem dX5_tell_223 : decode cX5_tell 223 = .ok (.getfield 23, 3) := by decide +kernel
theorem dX5_tell_226 : decode cX5_tell 226 = .ok (.invokevirtual 160, 3) := by decide +kernel
theorem dX5_tell_229 : decode cX5_tell 229 = .ok (.pop, 1) := by decide +kernel
theorem dX5_tell_230 : decode cX5_tell 230 = .ok (.return_, 1) := by decide +kernel
theorem dX6_init_0 : decode cX6_init 0 = .ok (.aload_n 0, 1) := by decide +kernel
theorem dX6_init_1 : decode cX6_init 1 = .ok (.invokespecial 3, 3) := by decide +kernel
theorem dX6_init_4 : decode cX6_init 4 = .ok (.aload_n 0, 1) := by decide +kernel
theorem dX6_init_5 : decode cX6_init 5 = .ok (.sipush 160, 3) := by decide +kernel
theorem dX6_init_8 : decode cX6_init 8 = .ok (.newarray .long, 2) := by decide +kernel
theorem dX6_init_10 : decode cX6_init 10 = .ok (.putfield 9, 3) := by decide +kernel
theorem dX6_init_13 : decode cX6_init 13 = .ok (.aload_n 0, 1) := by decide +kernel
theorem dX6_init_14 : decode cX6_init 14 = .ok (.iconst 0, 1) := by decide +kernel
theorem dX6_init_15 : decode cX6_init 15 = .ok (.putfield 15, 3) := by decide +kernel
theorem dX6_init_18 : decode cX6_init 18 = .ok (.aload_n 0, 1) := by decide +kernel
theorem dX6_init_19 : decode cX6_init 19 = .ok (.iconst (-1), 1) := by decide +kernel
theorem dX6_init_20 : decode cX6_init 20 = .ok (.putfield 19, 3) := by decide +kernel
theorem dX6_init_23 : decode cX6_init 23 = .ok (.return_, 1) := by decide +kernel
theorem dX6_holdNothing_0 : decode cX6_holdNothing 0 = .ok (.aload_n 0, 1) := by decide +kernel
theorem dX6_holdNothing_1 : decode cX6_holdNothing 1 = .ok (.iconst (-1), 1) := by decide +kernel
theorem dX6_holdNothing_2 : decode cX6_holdNothing 2 = .ok (.putfield 19, 3) := by decide +kernel
theorem dX6_holdNothing_5 : decode cX6_holdNothing 5 = .ok (.aload_n 0, 1) := by decide +kernel
theorem dX6_holdNothing_6 : decode cX6_holdNothing 6 = .ok (.iconst 0, 1) := by decide +kernel
theorem dX6_holdNothing_7 : decode cX6_holdNothing 7 = .ok (.putfield 15, 3) := by decide +kernel
theorem dX6_holdNothing_10 : decode cX6_holdNothing 10 = .ok (.return_, 1) := by decide +kernel
theorem dX6_holdGarment_0 : decode cX6_holdGarment 0 = .ok (.aload_n 0, 1) := by decide +kernel
theorem dX6_holdGarment_1 : decode cX6_holdGarment 1 = .ok (.iload_n 1, 1) := by decide +kernel
theorem dX6_holdGarment_2 : decode cX6_holdGarment 2 = .ok (.putfield 19, 3) := by decide +kernel
theorem dX6_holdGarment_5 : decode cX6_holdGarment 5 = .ok (.aload_n 0, 1) := by decide +kernel
theorem dX6_holdGarment_6 : decode cX6_holdGarment 6 = .ok (.iconst 0, 1) := by decide +kernel
theorem dX6_holdGarment_7 : decode cX6_holdGarment 7 = .ok (.putfield 15, 3) := by decide +kernel
theorem dX6_holdGarment_10 : decode cX6_holdGarment 10 = .ok (.return_, 1) := by decide +kernel
theorem dX6_holdRow_0 : decode cX6_holdRow 0 = .ok (.aload_n 0, 1) := by decide +kernel
theorem dX6_holdRow_1 : decode cX6_holdRow 1 = .ok (.bipush 100, 2) := by decide +kernel
theorem dX6_holdRow_3 : decode cX6_holdRow 3 = .ok (.iload_n 1, 1) := by decide +kernel
theorem dX6_holdRow_4 : decode cX6_holdRow 4 = .ok (.iadd, 1) := by decide +kernel
theorem dX6_holdRow_5 : decode cX6_holdRow 5 = .ok (.putfield 19, 3) := by decide +kernel
theorem dX6_holdRow_8 : decode cX6_holdRow 8 = .ok (.aload_n 0, 1) := by decide +kernel
theorem dX6_holdRow_9 : decode cX6_holdRow 9 = .ok (.iload_n 2, 1) := by decide +kernel
theorem dX6_holdRow_10 : decode cX6_holdRow 10 = .ok (.putfield 15, 3) := by decide +kernel
theorem dX6_holdRow_13 : decode cX6_holdRow 13 = .ok (.aload_n 0, 1) := by decide +kernel
theorem dX6_holdRow_14 : decode cX6_holdRow 14 = .ok (.getfield 9, 3) := by decide +kernel
theorem dX6_holdRow_17 : decode cX6_holdRow 17 = .ok (.lconst 0, 1) := by decide +kernel
theorem dX6_holdRow_18 : decode cX6_holdRow 18 = .ok (.invokestatic 22, 3) := by decide +kernel
theorem dX6_holdRow_21 : decode cX6_holdRow 21 = .ok (.return_, 1) := by decide +kernel
theorem dX6_holdsNothing_0 : decode cX6_holdsNothing 0 = .ok (.aload_n 0, 1) := by decide +kernel
theorem dX6_holdsNothing_1 : decode cX6_holdsNothing 1 = .ok (.getfield 19, 3) := by decide +kernel
theorem dX6_holdsNothing_4 : decode cX6_holdsNothing 4 = .ok (.iconst (-1), 1) := by decide +kernel
theorem dX6_holdsNothing_5 : decode cX6_holdsNothing 5 = .ok (.if_icmp .ne 7, 3) := by decide +kernel
theorem dX6_holdsNothing_8 : decode cX6_holdsNothing 8 = .ok (.iconst 1, 1) := by decide +kernel
theorem dX6_holdsNothing_9 : decode cX6_holdsNothing 9 = .ok (.goto 4, 3) := by decide +kernel
theorem dX6_holdsNothing_12 : decode cX6_holdsNothing 12 = .ok (.iconst 0, 1) := by decide +kernel
theorem dX6_holdsNothing_13 : decode cX6_holdsNothing 13 = .ok (.ireturn, 1) := by decide +kernel
theorem dX6_holdsRow_0 : decode cX6_holdsRow 0 = .ok (.aload_n 0, 1) := by decide +kernel
theorem dX6_holdsRow_1 : decode cX6_holdsRow 1 = .ok (.getfield 19, 3) := by decide +kernel
theorem dX6_holdsRow_4 : decode cX6_holdsRow 4 = .ok (.bipush 100, 2) := by decide +kernel
theorem dX6_holdsRow_6 : decode cX6_holdsRow 6 = .ok (.if_icmp .lt 7, 3) := by decide +kernel
theorem dX6_holdsRow_9 : decode cX6_holdsRow 9 = .ok (.iconst 1, 1) := by decide +kernel
theorem dX6_holdsRow_10 : decode cX6_holdsRow 10 = .ok (.goto 4, 3) := by decide +kernel
theorem dX6_holdsRow_13 : decode cX6_holdsRow 13 = .ok (.iconst 0, 1) := by decide +kernel
theorem dX6_holdsRow_14 : decode cX6_holdsRow 14 = .ok (.ireturn, 1) := by decide +kernel
theorem dX6_holdsGarment_0 : decode cX6_holdsGarment 0 = .ok (.aload_n 0, 1) := by decide +kernel
theorem dX6_holdsGarment_1 : decode cX6_holdsGarment 1 = .ok (.getfield 19, 3) := by decide +kernel
theorem dX6_holdsGarment_4 : decode cX6_holdsGarment 4 = .ok (.iconst (-1), 1) := by decide +kernel
theorem dX6_holdsGarment_5 : decode cX6_holdsGarment 5 = .ok (.if_icmp .eq 16, 3) := by decide +kernel
theorem dX6_holdsGarment_8 : decode cX6_holdsGarment 8 = .ok (.aload_n 0, 1) := by decide +kernel
theorem dX6_holdsGarment_9 : decode cX6_holdsGarment 9 = .ok (.getfield 19, 3) := by decide +kernel
theorem dX6_holdsGarment_12 : decode cX6_holdsGarment 12 = .ok (.bipush 100, 2) := by decide +kernel
theorem dX6_holdsGarment_14 : decode cX6_holdsGarment 14 = .ok (.if_icmp .ge 7, 3) := by decide +kernel
theorem dX6_holdsGarment_17 : decode cX6_holdsGarment 17 = .ok (.iconst 1, 1) := by decide +kernel
theorem dX6_holdsGarment_18 : decode cX6_holdsGarment 18 = .ok (.goto 4, 3) := by decide +kernel
theorem dX6_holdsGarment_21 : decode cX6_holdsGarment 21 = .ok (.iconst 0, 1) := by decide +kernel
theorem dX6_holdsGarment_22 : decode cX6_holdsGarment 22 = .ok (.ireturn, 1) := by decide +kernel
theorem dX6_isOfOtherSort_0 : decode cX6_isOfOtherSort 0 = .ok (.aload_n 0, 1) := by decide +kernel
theorem dX6_isOfOtherSort_1 : decode cX6_isOfOtherSort 1 = .ok (.invokevirtual 28, 3) := by decide +kernel
theorem dX6_isOfOtherSort_4 : decode cX6_isOfOtherSort 4 = .ok (.ifCond .eq 25, 3) := by decide +kernel
theorem dX6_isOfOtherSort_7 : decode cX6_isOfOtherSort 7 = .ok (.aload_n 1, 1) := by decide +kernel
theorem dX6_isOfOtherSort_8 : decode cX6_isOfOtherSort 8 = .ok (.invokevirtual 28, 3) := by decide +kernel
theorem dX6_isOfOtherSort_11 : decode cX6_isOfOtherSort 11 = .ok (.ifCond .eq 18, 3) := by decide +kernel
theorem dX6_isOfOtherSort_14 : decode cX6_isOfOtherSort 14 = .ok (.aload_n 0, 1) := by decide +kernel
theorem dX6_isOfOtherSort_15 : decode cX6_isOfOtherSort 15 = .ok (.getfield 19, 3) := by decide +kernel
theorem dX6_isOfOtherSort_18 : decode cX6_isOfOtherSort 18 = .ok (.aload_n 1, 1) := by decide +kernel
theorem dX6_isOfOtherSort_19 : decode cX6_isOfOtherSort 19 = .ok (.getfield 19, 3) := by decide +kernel
theorem dX6_isOfOtherSort_22 : decode cX6_isOfOtherSort 22 = .ok (.if_icmp .eq 7, 3) := by decide +kernel
theorem dX6_isOfOtherSort_25 : decode cX6_isOfOtherSort 25 = .ok (.iconst 1, 1) := by decide +kernel
theorem dX6_isOfOtherSort_26 : decode cX6_isOfOtherSort 26 = .ok (.goto 4, 3) := by decide +kernel
theorem dX6_isOfOtherSort_29 : decode cX6_isOfOtherSort 29 = .ok (.iconst 0, 1) := by decide +kernel
theorem dX6_isOfOtherSort_30 : decode cX6_isOfOtherSort 30 = .ok (.ireturn, 1) := by decide +kernel
theorem dX6_spans_0 : decode cX6_spans 0 = .ok (.iload_n 1, 1) := by decide +kernel
theorem dX6_spans_1 : decode cX6_spans 1 = .ok (.ifCond .lt 21, 3) := by decide +kernel
theorem dX6_spans_4 : decode cX6_spans 4 = .ok (.iload_n 2, 1) := by decide +kernel
theorem dX6_spans_5 : decode cX6_spans 5 = .ok (.ifCond .lt 17, 3) := by decide +kernel
theorem dX6_spans_8 : decode cX6_spans 8 = .ok (.iload_n 1, 1) := by decide +kernel
theorem dX6_spans_9 : decode cX6_spans 9 = .ok (.aload_n 0, 1) := by decide +kernel
theorem dX6_spans_10 : decode cX6_spans 10 = .ok (.getfield 15, 3) := by decide +kernel
theorem dX6_spans_13 : decode cX6_spans 13 = .ok (.iload_n 2, 1) := by decide +kernel
theorem dX6_spans_14 : decode cX6_spans 14 = .ok (.isub, 1) := by decide +kernel
theorem dX6_spans_15 : decode cX6_spans 15 = .ok (.if_icmp .gt 7, 3) := by decide +kernel
theorem dX6_spans_18 : decode cX6_spans 18 = .ok (.iconst 1, 1) := by decide +kernel
theorem dX6_spans_19 : decode cX6_spans 19 = .ok (.goto 4, 3) := by decide +kernel
theorem dX6_spans_22 : decode cX6_spans 22 = .ok (.iconst 0, 1) := by decide +kernel
theorem dX6_spans_23 : decode cX6_spans 23 = .ok (.ireturn, 1) := by decide +kernel
theorem dX6_put_0 : decode cX6_put 0 = .ok (.aload_n 0, 1) := by decide +kernel
theorem dX6_put_1 : decode cX6_put 1 = .ok (.getfield 19, 3) := by decide +kernel
theorem dX6_put_4 : decode cX6_put 4 = .ok (.bipush 100, 2) := by decide +kernel
theorem dX6_put_6 : decode cX6_put 6 = .ok (.isub, 1) := by decide +kernel
theorem dX6_put_7 : decode cX6_put 7 = .ok (.tableswitch 63 0 2 #[25, 38, 51], 25) := by decide +kernel
theorem dX6_put_32 : decode cX6_put 32 = .ok (.aload_n 0, 1) := by decide +kernel
theorem dX6_put_33 : decode cX6_put 33 = .ok (.getfield 9, 3) := by decide +kernel
theorem dX6_put_36 : decode cX6_put 36 = .ok (.iload_n 1, 1) := by decide +kernel
theorem dX6_put_37 : decode cX6_put 37 = .ok (.lload_n 2, 1) := by decide +kernel
theorem dX6_put_38 : decode cX6_put 38 = .ok (.l2i, 1) := by decide +kernel
theorem dX6_put_39 : decode cX6_put 39 = .ok (.i2b, 1) := by decide +kernel
theorem dX6_put_40 : decode cX6_put 40 = .ok (.i2l, 1) := by decide +kernel
theorem dX6_put_41 : decode cX6_put 41 = .ok (.lastore, 1) := by decide +kernel
theorem dX6_put_42 : decode cX6_put 42 = .ok (.goto 35, 3) := by decide +kernel
theorem dX6_put_45 : decode cX6_put 45 = .ok (.aload_n 0, 1) := by decide +kernel
theorem dX6_put_46 : decode cX6_put 46 = .ok (.getfield 9, 3) := by decide +kernel
theorem dX6_put_49 : decode cX6_put 49 = .ok (.iload_n 1, 1) := by decide +kernel
theorem dX6_put_50 : decode cX6_put 50 = .ok (.lload_n 2, 1) := by decide +kernel
theorem dX6_put_51 : decode cX6_put 51 = .ok (.l2i, 1) := by decide +kernel
theorem dX6_put_52 : decode cX6_put 52 = .ok (.i2s, 1) := by decide +kernel
theorem dX6_put_53 : decode cX6_put 53 = .ok (.i2l, 1) := by decide +kernel
theorem dX6_put_54 : decode cX6_put 54 = .ok (.lastore, 1) := by decide +kernel
theorem dX6_put_55 : decode cX6_put 55 = .ok (.goto 22, 3) := by decide +kernel
theorem dX6_put_58 : decode cX6_put 58 = .ok (.aload_n 0, 1) := by decide +kernel
theorem dX6_put_59 : decode cX6_put 59 = .ok (.getfield 9, 3) := by decide +kernel
theorem dX6_put_62 : decode cX6_put 62 = .ok (.iload_n 1, 1) := by decide +kernel
theorem dX6_put_63 : decode cX6_put 63 = .ok (.lload_n 2, 1) := by decide +kernel
theorem dX6_put_64 : decode cX6_put 64 = .ok (.l2i, 1) := by decide +kernel
theorem dX6_put_65 : decode cX6_put 65 = .ok (.i2l, 1) := by decide +kernel
theorem dX6_put_66 : decode cX6_put 66 = .ok (.lastore, 1) := by decide +kernel
theorem dX6_put_67 : decode cX6_put 67 = .ok (.goto 10, 3) := by decide +kernel
theorem dX6_put_70 : decode cX6_put 70 = .ok (.aload_n 0, 1) := by decide +kernel
theorem dX6_put_71 : decode cX6_put 71 = .ok (.getfield 9, 3) := by decide +kernel
theorem dX6_put_74 : decode cX6_put 74 = .ok (.iload_n 1, 1) := by decide +kernel
theorem dX6_put_75 : decode cX6_put 75 = .ok (.lload_n 2, 1) := by decide +kernel
theorem dX6_put_76 : decode cX6_put 76 = .ok (.lastore, 1) := by decide +kernel
theorem dX6_put_77 : decode cX6_put 77 = .ok (.return_, 1) := by decide +kernel
theorem dX6_at_0 : decode cX6_at 0 = .ok (.iload_n 1, 1) := by decide +kernel
theorem dX6_at_1 : decode cX6_at 1 = .ok (.ifCond .lt 20, 3) := by decide +kernel
theorem dX6_at_4 : decode cX6_at 4 = .ok (.iload_n 1, 1) := by decide +kernel
theorem dX6_at_5 : decode cX6_at 5 = .ok (.aload_n 0, 1) := by decide +kernel
theorem dX6_at_6 : decode cX6_at 6 = .ok (.getfield 15, 3) := by decide +kernel
theorem dX6_at_9 : decode cX6_at 9 = .ok (.if_icmp .ge 12, 3) := by decide +kernel
theorem dX6_at_12 : decode cX6_at 12 = .ok (.aload_n 0, 1) := by decide +kernel
theorem dX6_at_13 : decode cX6_at 13 = .ok (.getfield 9, 3) := by decide +kernel
theorem dX6_at_16 : decode cX6_at 16 = .ok (.iload_n 1, 1) := by decide +kernel
theorem dX6_at_17 : decode cX6_at 17 = .ok (.laload, 1) := by decide +kernel
theorem dX6_at_18 : decode cX6_at 18 = .ok (.goto 4, 3) := by decide +kernel
theorem dX6_at_21 : decode cX6_at 21 = .ok (.lconst 0, 1) := by decide +kernel
theorem dX6_at_22 : decode cX6_at 22 = .ok (.lreturn, 1) := by decide +kernel
theorem dX6_intAt_0 : decode cX6_intAt 0 = .ok (.iload_n 1, 1) := by decide +kernel
theorem dX6_intAt_1 : decode cX6_intAt 1 = .ok (.ifCond .lt 21, 3) := by decide +kernel
theorem dX6_intAt_4 : decode cX6_intAt 4 = .ok (.iload_n 1, 1) := by decide +kernel
theorem dX6_intAt_5 : decode cX6_intAt 5 = .ok (.aload_n 0, 1) := by decide +kernel
theorem dX6_intAt_6 : decode cX6_intAt 6 = .ok (.getfield 15, 3) := by decide +kernel
theorem dX6_intAt_9 : decode cX6_intAt 9 = .ok (.if_icmp .ge 13, 3) := by decide +kernel
theorem dX6_intAt_12 : decode cX6_intAt 12 = .ok (.aload_n 0, 1) := by decide +kernel
theorem dX6_intAt_13 : decode cX6_intAt 13 = .ok (.getfield 9, 3) := by decide +kernel
theorem dX6_intAt_16 : decode cX6_intAt 16 = .ok (.iload_n 1, 1) := by decide +kernel
theorem dX6_intAt_17 : decode cX6_intAt 17 = .ok (.laload, 1) := by decide +kernel
theorem dX6_intAt_18 : decode cX6_intAt 18 = .ok (.l2i, 1) := by decide +kernel
theorem dX6_intAt_19 : decode cX6_intAt 19 = .ok (.goto 4, 3) := by decide +kernel
theorem dX6_intAt_22 : decode cX6_intAt 22 = .ok (.iconst 0, 1) := by decide +kernel
theorem dX6_intAt_23 : decode cX6_intAt 23 = .ok (.ireturn, 1) := by decide +kernel
theorem dX6_tellsDeedsAlone_0 : decode cX6_tellsDeedsAlone 0 = .ok (.iconst 0, 1) := by decide +kernel
theorem dX6_tellsDeedsAlone_1 : decode cX6_tellsDeedsAlone 1 = .ok (.istore_n 1, 1) := by decide +kernel
theorem dX6_tellsDeedsAlone_2 : decode cX6_tellsDeedsAlone 2 = .ok (.iload_n 1, 1) := by decide +kernel
theorem dX6_tellsDeedsAlone_3 : decode cX6_tellsDeedsAlone 3 = .ok (.bipush 12, 2) := by decide +kernel
theorem dX6_tellsDeedsAlone_5 : decode cX6_tellsDeedsAlone 5 = .ok (.if_icmp .ge 22, 3) := by decide +kernel
theorem dX6_tellsDeedsAlone_8 : decode cX6_tellsDeedsAlone 8 = .ok (.aload_n 0, 1) := by decide +kernel
theorem dX6_tellsDeedsAlone_9 : decode cX6_tellsDeedsAlone 9 = .ok (.iload_n 1, 1) := by decide +kernel
theorem dX6_tellsDeedsAlone_10 : decode cX6_tellsDeedsAlone 10 = .ok (.invokevirtual 32, 3) := by decide +kernel
theorem dX6_tellsDeedsAlone_13 : decode cX6_tellsDeedsAlone 13 = .ok (.invokestatic 36, 3) := by decide +kernel
theorem dX6_tellsDeedsAlone_16 : decode cX6_tellsDeedsAlone 16 = .ok (.ifCond .ne 5, 3) := by decide +kernel
theorem dX6_tellsDeedsAlone_19 : decode cX6_tellsDeedsAlone 19 = .ok (.iconst 0, 1) := by decide +kernel
theorem dX6_tellsDeedsAlone_20 : decode cX6_tellsDeedsAlone 20 = .ok (.ireturn, 1) := by decide +kernel
theorem dX6_tellsDeedsAlone_21 : decode cX6_tellsDeedsAlone 21 = .ok (.iinc 1 1, 3) := by decide +kernel
theorem dX6_tellsDeedsAlone_24 : decode cX6_tellsDeedsAlone 24 = .ok (.goto (-22), 3) := by decide +kernel
theorem dX6_tellsDeedsAlone_27 : decode cX6_tellsDeedsAlone 27 = .ok (.iconst 1, 1) := by decide +kernel
theorem dX6_tellsDeedsAlone_28 : decode cX6_tellsDeedsAlone 28 = .ok (.ireturn, 1) := by decide +kernel
theorem dX7_init_0 : decode cX7_init 0 = .ok (.aload_n 0, 1) := by decide +kernel
theorem dX7_init_1 : decode cX7_init 1 = .ok (.invokespecial 1, 3) := by decide +kernel
theorem dX7_init_4 : decode cX7_init 4 = .ok (.aload_n 0, 1) := by decide +kernel
theorem dX7_init_5 : decode cX7_init 5 = .ok (.bipush 8, 2) := by decide +kernel
theorem dX7_init_7 : decode cX7_init 7 = .ok (.anewarray 9, 3) := by decide +kernel
theorem dX7_init_10 : decode cX7_init 10 = .ok (.putfield 11, 3) := by decide +kernel
theorem dX7_init_13 : decode cX7_init 13 = .ok (.aload_n 0, 1) := by decide +kernel
theorem dX7_init_14 : decode cX7_init 14 = .ok (.bipush 8, 2) := by decide +kernel
theorem dX7_init_16 : decode cX7_init 16 = .ok (.newarray .int, 2) := by decide +kernel
theorem dX7_init_18 : decode cX7_init 18 = .ok (.putfield 15, 3) := by decide +kernel
theorem dX7_init_21 : decode cX7_init 21 = .ok (.aload_n 0, 1) := by decide +kernel
theorem dX7_init_22 : decode cX7_init 22 = .ok (.new 19, 3) := by decide +kernel
theorem dX7_init_25 : decode cX7_init 25 = .ok (.dup, 1) := by decide +kernel
theorem dX7_init_26 : decode cX7_init 26 = .ok (.invokespecial 21, 3) := by decide +kernel
theorem dX7_init_29 : decode cX7_init 29 = .ok (.putfield 22, 3) := by decide +kernel
theorem dX7_init_32 : decode cX7_init 32 = .ok (.aload_n 0, 1) := by decide +kernel
theorem dX7_init_33 : decode cX7_init 33 = .ok (.new 19, 3) := by decide +kernel
theorem dX7_init_36 : decode cX7_init 36 = .ok (.dup, 1) := by decide +kernel
theorem dX7_init_37 : decode cX7_init 37 = .ok (.invokespecial 21, 3) := by decide +kernel
theorem dX7_init_40 : decode cX7_init 40 = .ok (.putfield 26, 3) := by decide +kernel
theorem dX7_init_43 : decode cX7_init 43 = .ok (.aload_n 0, 1) := by decide +kernel
theorem dX7_init_44 : decode cX7_init 44 = .ok (.new 19, 3) := by decide +kernel
theorem dX7_init_47 : decode cX7_init 47 = .ok (.dup, 1) := by decide +kernel
theorem dX7_init_48 : decode cX7_init 48 = .ok (.invokespecial 21, 3) := by decide +kernel
theorem dX7_init_51 : decode cX7_init 51 = .ok (.putfield 29, 3) := by decide +kernel
theorem dX7_init_54 : decode cX7_init 54 = .ok (.aload_n 0, 1) := by decide +kernel
theorem dX7_init_55 : decode cX7_init 55 = .ok (.new 32, 3) := by decide +kernel
theorem dX7_init_58 : decode cX7_init 58 = .ok (.dup, 1) := by decide +kernel
theorem dX7_init_59 : decode cX7_init 59 = .ok (.invokespecial 34, 3) := by decide +kernel
theorem dX7_init_62 : decode cX7_init 62 = .ok (.putfield 35, 3) := by decide +kernel
theorem dX7_init_65 : decode cX7_init 65 = .ok (.aload_n 0, 1) := by decide +kernel
theorem dX7_init_66 : decode cX7_init 66 = .ok (.new 39, 3) := by decide +kernel
theorem dX7_init_69 : decode cX7_init 69 = .ok (.dup, 1) := by decide +kernel
theorem dX7_init_70 : decode cX7_init 70 = .ok (.invokespecial 41, 3) := by decide +kernel
theorem dX7_init_73 : decode cX7_init 73 = .ok (.putfield 42, 3) := by decide +kernel
theorem dX7_init_76 : decode cX7_init 76 = .ok (.aload_n 0, 1) := by decide +kernel
theorem dX7_init_77 : decode cX7_init 77 = .ok (.new 46, 3) := by decide +kernel
theorem dX7_init_80 : decode cX7_init 80 = .ok (.dup, 1) := by decide +kernel
theorem dX7_init_81 : decode cX7_init 81 = .ok (.invokespecial 48, 3) := by decide +kernel
theorem dX7_init_84 : decode cX7_init 84 = .ok (.putfield 49, 3) := by decide +kernel
theorem dX7_init_87 : decode cX7_init 87 = .ok (.aload_n 0, 1) := by decide +kernel
theorem dX7_init_88 : decode cX7_init 88 = .ok (.new 53, 3) := by decide +kernel
theorem dX7_init_91 : decode cX7_init 91 = .ok (.dup, 1) := by decide +kernel
theorem dX7_init_92 : decode cX7_init 92 = .ok (.invokespecial 55, 3) := by decide +kernel
theorem dX7_init_95 : decode cX7_init 95 = .ok (.putfield 56, 3) := by decide +kernel
theorem dX7_init_98 : decode cX7_init 98 = .ok (.aload_n 0, 1) := by decide +kernel
theorem dX7_init_99 : decode cX7_init 99 = .ok (.iconst 0, 1) := by decide +kernel
theorem dX7_init_100 : decode cX7_init 100 = .ok (.putfield 60, 3) := by decide +kernel
theorem dX7_init_103 : decode cX7_init 103 = .ok (.aload_n 0, 1) := by decide +kernel
theorem dX7_init_104 : decode cX7_init 104 = .ok (.iconst (-1), 1) := by decide +kernel
theorem dX7_init_105 : decode cX7_init 105 = .ok (.putfield 64, 3) := by decide +kernel
theorem dX7_init_108 : decode cX7_init 108 = .ok (.iconst 0, 1) := by decide +kernel
theorem dX7_init_109 : decode cX7_init 109 = .ok (.istore_n 1, 1) := by decide +kernel
theorem dX7_init_110 : decode cX7_init 110 = .ok (.iload_n 1, 1) := by decide +kernel
theorem dX7_init_111 : decode cX7_init 111 = .ok (.bipush 8, 2) := by decide +kernel
theorem dX7_init_113 : decode cX7_init 113 = .ok (.if_icmp .ge 22, 3) := by decide +kernel
theorem dX7_init_116 : decode cX7_init 116 = .ok (.aload_n 0, 1) := by decide +kernel
theorem dX7_init_117 : decode cX7_init 117 = .ok (.getfield 11, 3) := by decide +kernel
theorem dX7_init_120 : decode cX7_init 120 = .ok (.iload_n 1, 1) := by decide +kernel
theorem dX7_init_121 : decode cX7_init 121 = .ok (.new 9, 3) := by decide +kernel
theorem dX7_init_124 : decode cX7_init 124 = .ok (.dup, 1) := by decide +kernel
theorem dX7_init_125 : decode cX7_init 125 = .ok (.invokespecial 68, 3) := by decide +kernel
theorem dX7_init_128 : decode cX7_init 128 = .ok (.aastore, 1) := by decide +kernel
theorem dX7_init_129 : decode cX7_init 129 = .ok (.iinc 1 1, 3) := by decide +kernel
theorem dX7_init_132 : decode cX7_init 132 = .ok (.goto (-22), 3) := by decide +kernel
theorem dX7_init_135 : decode cX7_init 135 = .ok (.return_, 1) := by decide +kernel
theorem dX7_row_0 : decode cX7_row 0 = .ok (.iload_n 1, 1) := by decide +kernel
theorem dX7_row_1 : decode cX7_row 1 = .ok (.invokestatic 69, 3) := by decide +kernel
theorem dX7_row_4 : decode cX7_row 4 = .ok (.ifCond .ne 9, 3) := by decide +kernel
theorem dX7_row_7 : decode cX7_row 7 = .ok (.aload_n 0, 1) := by decide +kernel
theorem dX7_row_8 : decode cX7_row 8 = .ok (.iconst (-1), 1) := by decide +kernel
theorem dX7_row_9 : decode cX7_row 9 = .ok (.invokevirtual 73, 3) := by decide +kernel
theorem dX7_row_12 : decode cX7_row 12 = .ok (.ireturn, 1) := by decide +kernel
theorem dX7_row_13 : decode cX7_row 13 = .ok (.iload_n 3, 1) := by decide +kernel
theorem dX7_row_14 : decode cX7_row 14 = .ok (.ifCond .ge 10, 3) := by decide +kernel
theorem dX7_row_17 : decode cX7_row 17 = .ok (.aload_n 0, 1) := by decide +kernel
theorem dX7_row_18 : decode cX7_row 18 = .ok (.bipush (-4), 2) := by decide +kernel
theorem dX7_row_20 : decode cX7_row 20 = .ok (.invokevirtual 73, 3) := by decide +kernel
theorem dX7_row_23 : decode cX7_row 23 = .ok (.ireturn, 1) := by decide +kernel
theorem dX7_row_24 : decode cX7_row 24 = .ok (.iload_n 2, 1) := by decide +kernel
theorem dX7_row_25 : decode cX7_row 25 = .ok (.iconst 0, 1) := by decide +kernel
theorem dX7_row_26 : decode cX7_row 26 = .ok (.iconst 3, 1) := by decide +kernel
theorem dX7_row_27 : decode cX7_row 27 = .ok (.invokestatic 77, 3) := by decide +kernel
theorem dX7_row_30 : decode cX7_row 30 = .ok (.ifCond .ne 10, 3) := by decide +kernel
theorem dX7_row_33 : decode cX7_row 33 = .ok (.aload_n 0, 1) := by decide +kernel
theorem dX7_row_34 : decode cX7_row 34 = .ok (.bipush (-6), 2) := by decide +kernel
theorem dX7_row_36 : decode cX7_row 36 = .ok (.invokevirtual 73, 3) := by decide +kernel
theorem dX7_row_39 : decode cX7_row 39 = .ok (.ireturn, 1) := by decide +kernel
theorem dX7_row_40 : decode cX7_row 40 = .ok (.iload_n 3, 1) := by decide +kernel
theorem dX7_row_41 : decode cX7_row 41 = .ok (.sipush 160, 3) := by decide +kernel
theorem dX7_row_44 : decode cX7_row 44 = .ok (.if_icmp .le 10, 3) := by decide +kernel
theorem dX7_row_47 : decode cX7_row 47 = .ok (.aload_n 0, 1) := by decide +kernel
theorem dX7_row_48 : decode cX7_row 48 = .ok (.bipush (-7), 2) := by decide +kernel
theorem dX7_row_50 : decode cX7_row 50 = .ok (.invokevirtual 73, 3) := by decide +kernel
theorem dX7_row_53 : decode cX7_row 53 = .ok (.ireturn, 1) := by decide +kernel
theorem dX7_row_54 : decode cX7_row 54 = .ok (.aload_n 0, 1) := by decide +kernel
theorem dX7_row_55 : decode cX7_row 55 = .ok (.getfield 11, 3) := by decide +kernel
theorem dX7_row_58 : decode cX7_row 58 = .ok (.iload_n 1, 1) := by decide +kernel
theorem dX7_row_59 : decode cX7_row 59 = .ok (.aaload, 1) := by decide +kernel
theorem dX7_row_60 : decode cX7_row 60 = .ok (.iload_n 2, 1) := by decide +kernel
theorem dX7_row_61 : decode cX7_row 61 = .ok (.iload_n 3, 1) := by decide +kernel
theorem dX7_row_62 : decode cX7_row 62 = .ok (.invokevirtual 81, 3) := by decide +kernel
theorem dX7_row_65 : decode cX7_row 65 = .ok (.iconst 1, 1) := by decide +kernel
theorem dX7_row_66 : decode cX7_row 66 = .ok (.ireturn, 1) := by decide +kernel
theorem dX7_set_0 : decode cX7_set 0 = .ok (.aload_n 0, 1) := by decide +kernel
theorem dX7_set_1 : decode cX7_set 1 = .ok (.iload_n 1, 1) := by decide +kernel
theorem dX7_set_2 : decode cX7_set 2 = .ok (.invokevirtual 85, 3) := by decide +kernel
theorem dX7_set_5 : decode cX7_set 5 = .ok (.istore 5, 2) := by decide +kernel
theorem dX7_set_7 : decode cX7_set 7 = .ok (.iload 5, 2) := by decide +kernel
theorem dX7_set_9 : decode cX7_set 9 = .ok (.ifCond .eq 10, 3) := by decide +kernel
theorem dX7_set_12 : decode cX7_set 12 = .ok (.aload_n 0, 1) := by decide +kernel
theorem dX7_set_13 : decode cX7_set 13 = .ok (.iload 5, 2) := by decide +kernel
theorem dX7_set_15 : decode cX7_set 15 = .ok (.invokevirtual 73, 3) := by decide +kernel
theorem dX7_set_18 : decode cX7_set 18 = .ok (.ireturn, 1) := by decide +kernel
theorem dX7_set_19 : decode cX7_set 19 = .ok (.aload_n 0, 1) := by decide +kernel
theorem dX7_set_20 : decode cX7_set 20 = .ok (.getfield 11, 3) := by decide +kernel
theorem dX7_set_23 : decode cX7_set 23 = .ok (.iload_n 1, 1) := by decide +kernel
theorem dX7_set_24 : decode cX7_set 24 = .ok (.aaload, 1) := by decide +kernel
theorem dX7_set_25 : decode cX7_set 25 = .ok (.iload_n 2, 1) := by decide +kernel
theorem dX7_set_26 : decode cX7_set 26 = .ok (.iconst 1, 1) := by decide +kernel
theorem dX7_set_27 : decode cX7_set 27 = .ok (.invokevirtual 88, 3) := by decide +kernel
theorem dX7_set_30 : decode cX7_set 30 = .ok (.ifCond .ne 10, 3) := by decide +kernel
theorem dX7_set_33 : decode cX7_set 33 = .ok (.aload_n 0, 1) := by decide +kernel
theorem dX7_set_34 : decode cX7_set 34 = .ok (.bipush (-5), 2) := by decide +kernel
theorem dX7_set_36 : decode cX7_set 36 = .ok (.invokevirtual 73, 3) := by decide +kernel
theorem dX7_set_39 : decode cX7_set 39 = .ok (.ireturn, 1) := by decide +kernel
theorem dX7_set_40 : decode cX7_set 40 = .ok (.aload_n 0, 1) := by decide +kernel
theorem dX7_set_41 : decode cX7_set 41 = .ok (.getfield 11, 3) := by decide +kernel
theorem dX7_set_44 : decode cX7_set 44 = .ok (.iload_n 1, 1) := by decide +kernel
theorem dX7_set_45 : decode cX7_set 45 = .ok (.aaload, 1) := by decide +kernel
theorem dX7_set_46 : decode cX7_set 46 = .ok (.iload_n 2, 1) := by decide +kernel
theorem dX7_set_47 : decode cX7_set 47 = .ok (.lload_n 3, 1) := by decide +kernel
theorem dX7_set_48 : decode cX7_set 48 = .ok (.invokevirtual 92, 3) := by decide +kernel
theorem dX7_set_51 : decode cX7_set 51 = .ok (.iconst 1, 1) := by decide +kernel
theorem dX7_set_52 : decode cX7_set 52 = .ok (.ireturn, 1) := by decide +kernel
theorem dX7_copy_0 : decode cX7_copy 0 = .ok (.iload_n 1, 1) := by decide +kernel
theorem dX7_copy_1 : decode cX7_copy 1 = .ok (.invokestatic 69, 3) := by decide +kernel
theorem dX7_copy_4 : decode cX7_copy 4 = .ok (.ifCond .eq 10, 3) := by decide +kernel
theorem dX7_copy_7 : decode cX7_copy 7 = .ok (.iload_n 2, 1) := by decide +kernel
theorem dX7_copy_8 : decode cX7_copy 8 = .ok (.invokestatic 69, 3) := by decide +kernel
theorem dX7_copy_11 : decode cX7_copy 11 = .ok (.ifCond .ne 9, 3) := by decide +kernel
theorem dX7_copy_14 : decode cX7_copy 14 = .ok (.aload_n 0, 1) := by decide +kernel
theorem dX7_copy_15 : decode cX7_copy 15 = .ok (.iconst (-1), 1) := by decide +kernel
theorem dX7_copy_16 : decode cX7_copy 16 = .ok (.invokevirtual 73, 3) := by decide +kernel
theorem dX7_copy_19 : decode cX7_copy 19 = .ok (.ireturn, 1) := by decide +kernel
theorem dX7_copy_20 : decode cX7_copy 20 = .ok (.aload_n 0, 1) := by decide +kernel
theorem dX7_copy_21 : decode cX7_copy 21 = .ok (.getfield 11, 3) := by decide +kernel
theorem dX7_copy_24 : decode cX7_copy 24 = .ok (.iload_n 1, 1) := by decide +kernel
theorem dX7_copy_25 : decode cX7_copy 25 = .ok (.aaload, 1) := by decide +kernel
theorem dX7_copy_26 : decode cX7_copy 26 = .ok (.astore 6, 2) := by decide +kernel
theorem dX7_copy_28 : decode cX7_copy 28 = .ok (.aload_n 0, 1) := by decide +kernel
theorem dX7_copy_29 : decode cX7_copy 29 = .ok (.getfield 11, 3) := by decide +kernel
theorem dX7_copy_32 : decode cX7_copy 32 = .ok (.iload_n 2, 1) := by decide +kernel
theorem dX7_copy_33 : decode cX7_copy 33 = .ok (.aaload, 1) := by decide +kernel
theorem dX7_copy_34 : decode cX7_copy 34 = .ok (.astore 7, 2) := by decide +kernel
theorem dX7_copy_36 : decode cX7_copy 36 = .ok (.aload 6, 2) := by decide +kernel
theorem dX7_copy_38 : decode cX7_copy 38 = .ok (.invokevirtual 96, 3) := by decide +kernel
theorem dX7_copy_41 : decode cX7_copy 41 = .ok (.ifCond .ne 21, 3) := by decide +kernel
theorem dX7_copy_44 : decode cX7_copy 44 = .ok (.aload 7, 2) := by decide +kernel
theorem dX7_copy_46 : decode cX7_copy 46 = .ok (.invokevirtual 96, 3) := by decide +kernel
theorem dX7_copy_49 : decode cX7_copy 49 = .ok (.ifCond .ne 13, 3) := by decide +kernel
theorem dX7_copy_52 : decode cX7_copy 52 = .ok (.aload 6, 2) := by decide +kernel
theorem dX7_copy_54 : decode cX7_copy 54 = .ok (.aload 7, 2) := by decide +kernel
theorem dX7_copy_56 : decode cX7_copy 56 = .ok (.invokevirtual 100, 3) := by decide +kernel
theorem dX7_copy_59 : decode cX7_copy 59 = .ok (.ifCond .eq 10, 3) := by decide +kernel
theorem dX7_copy_62 : decode cX7_copy 62 = .ok (.aload_n 0, 1) := by decide +kernel
theorem dX7_copy_63 : decode cX7_copy 63 = .ok (.bipush (-2), 2) := by decide +kernel
theorem dX7_copy_65 : decode cX7_copy 65 = .ok (.invokevirtual 73, 3) := by decide +kernel
theorem dX7_copy_68 : decode cX7_copy 68 = .ok (.ireturn, 1) := by decide +kernel
theorem dX7_copy_69 : decode cX7_copy 69 = .ok (.aload 6, 2) := by decide +kernel
theorem dX7_copy_71 : decode cX7_copy 71 = .ok (.invokevirtual 104, 3) := by decide +kernel
theorem dX7_copy_74 : decode cX7_copy 74 = .ok (.ifCond .ne 11, 3) := by decide +kernel
theorem dX7_copy_77 : decode cX7_copy 77 = .ok (.aload 7, 2) := by decide +kernel
theorem dX7_copy_79 : decode cX7_copy 79 = .ok (.invokevirtual 104, 3) := by decide +kernel
theorem dX7_copy_82 : decode cX7_copy 82 = .ok (.ifCond .eq 10, 3) := by decide +kernel
theorem dX7_copy_85 : decode cX7_copy 85 = .ok (.aload_n 0, 1) := by decide +kernel
theorem dX7_copy_86 : decode cX7_copy 86 = .ok (.bipush (-3), 2) := by decide +kernel
theorem dX7_copy_88 : decode cX7_copy 88 = .ok (.invokevirtual 73, 3) := by decide +kernel
theorem dX7_copy_91 : decode cX7_copy 91 = .ok (.ireturn, 1) := by decide +kernel
theorem dX7_copy_92 : decode cX7_copy 92 = .ok (.iload 5, 2) := by decide +kernel
theorem dX7_copy_94 : decode cX7_copy 94 = .ok (.ifCond .ge 10, 3) := by decide +kernel
theorem dX7_copy_97 : decode cX7_copy 97 = .ok (.aload_n 0, 1) := by decide +kernel
theorem dX7_copy_98 : decode cX7_copy 98 = .ok (.bipush (-4), 2) := by decide +kernel
theorem dX7_copy_100 : decode cX7_copy 100 = .ok (.invokevirtual 73, 3) := by decide +kernel
theorem dX7_copy_103 : decode cX7_copy 103 = .ok (.ireturn, 1) := by decide +kernel
theorem dX7_copy_104 : decode cX7_copy 104 = .ok (.aload 6, 2) := by decide +kernel
theorem dX7_copy_106 : decode cX7_copy 106 = .ok (.iload_n 3, 1) := by decide +kernel
theorem dX7_copy_107 : decode cX7_copy 107 = .ok (.iload 5, 2) := by decide +kernel
theorem dX7_copy_109 : decode cX7_copy 109 = .ok (.invokevirtual 88, 3) := by decide +kernel
theorem dX7_copy_112 : decode cX7_copy 112 = .ok (.ifCond .eq 15, 3) := by decide +kernel
theorem dX7_copy_115 : decode cX7_copy 115 = .ok (.aload 7, 2) := by decide +kernel
theorem dX7_copy_117 : decode cX7_copy 117 = .ok (.iload 4, 2) := by decide +kernel
theorem dX7_copy_119 : decode cX7_copy 119 = .ok (.iload 5, 2) := by decide +kernel
theorem dX7_copy_121 : decode cX7_copy 121 = .ok (.invokevirtual 88, 3) := by decide +kernel
theorem dX7_copy_124 : decode cX7_copy 124 = .ok (.ifCond .ne 10, 3) := by decide +kernel
theorem dX7_copy_127 : decode cX7_copy 127 = .ok (.aload_n 0, 1) := by decide +kernel
theorem dX7_copy_128 : decode cX7_copy 128 = .ok (.bipush (-5), 2) := by decide +kernel
theorem dX7_copy_130 : decode cX7_copy 130 = .ok (.invokevirtual 73, 3) := by decide +kernel
theorem dX7_copy_133 : decode cX7_copy 133 = .ok (.ireturn, 1) := by decide +kernel
theorem dX7_copy_134 : decode cX7_copy 134 = .ok (.aload 6, 2) := by decide +kernel
theorem dX7_copy_136 : decode cX7_copy 136 = .ok (.getfield 107, 3) := by decide +kernel
theorem dX7_copy_139 : decode cX7_copy 139 = .ok (.iload_n 3, 1) := by decide +kernel
theorem dX7_copy_140 : decode cX7_copy 140 = .ok (.aload 7, 2) := by decide +kernel
theorem dX7_copy_142 : decode cX7_copy 142 = .ok (.getfield 107, 3) := by decide +kernel
theorem dX7_copy_145 : decode cX7_copy 145 = .ok (.iload 4, 2) := by decide +kernel
theorem dX7_copy_147 : decode cX7_copy 147 = .ok (.iload 5, 2) := by decide +kernel
theorem dX7_copy_149 : decode cX7_copy 149 = .ok (.invokestatic 111, 3) := by decide +kernel
theorem dX7_copy_152 : decode cX7_copy 152 = .ok (.iconst 1, 1) := by decide +kernel
theorem dX7_copy_153 : decode cX7_copy 153 = .ok (.ireturn, 1) := by decide +kernel
theorem dX7_element_0 : decode cX7_element 0 = .ok (.aload_n 0, 1) := by decide +kernel
theorem dX7_element_1 : decode cX7_element 1 = .ok (.iload_n 1, 1) := by decide +kernel
theorem dX7_element_2 : decode cX7_element 2 = .ok (.invokevirtual 85, 3) := by decide +kernel
theorem dX7_element_5 : decode cX7_element 5 = .ok (.ifCond .ne 16, 3) := by decide +kernel
theorem dX7_element_8 : decode cX7_element 8 = .ok (.aload_n 0, 1) := by decide +kernel
theorem dX7_element_9 : decode cX7_element 9 = .ok (.getfield 11, 3) := by decide +kernel
theorem dX7_element_12 : decode cX7_element 12 = .ok (.iload_n 1, 1) := by decide +kernel
theorem dX7_element_13 : decode cX7_element 13 = .ok (.aaload, 1) := by decide +kernel
theorem dX7_element_14 : decode cX7_element 14 = .ok (.iload_n 2, 1) := by decide +kernel
theorem dX7_element_15 : decode cX7_element 15 = .ok (.invokevirtual 117, 3) := by decide +kernel
theorem dX7_element_18 : decode cX7_element 18 = .ok (.goto 4, 3) := by decide +kernel
theorem dX7_element_21 : decode cX7_element 21 = .ok (.lconst 0, 1) := by decide +kernel
theorem dX7_element_22 : decode cX7_element 22 = .ok (.lreturn, 1) := by decide +kernel
theorem dX7_show_0 : decode cX7_show 0 = .ok (.iload_n 1, 1) := by decide +kernel
theorem dX7_show_1 : decode cX7_show 1 = .ok (.invokestatic 69, 3) := by decide +kernel
theorem dX7_show_4 : decode cX7_show 4 = .ok (.ifCond .eq 19, 3) := by decide +kernel
theorem dX7_show_7 : decode cX7_show 7 = .ok (.iload_n 2, 1) := by decide +kernel
theorem dX7_show_8 : decode cX7_show 8 = .ok (.iconst (-1), 1) := by decide +kernel
theorem dX7_show_9 : decode cX7_show 9 = .ok (.if_icmp .eq 20, 3) := by decide +kernel
theorem dX7_show_12 : decode cX7_show 12 = .ok (.aload_n 0, 1) := by decide +kernel
theorem dX7_show_13 : decode cX7_show 13 = .ok (.getfield 22, 3) := by decide +kernel
theorem dX7_show_16 : decode cX7_show 16 = .ok (.iload_n 2, 1) := by decide +kernel
theorem dX7_show_17 : decode cX7_show 17 = .ok (.invokevirtual 121, 3) := by decide +kernel
theorem dX7_show_20 : decode cX7_show 20 = .ok (.ifCond .ne 9, 3) := by decide +kernel
theorem dX7_show_23 : decode cX7_show 23 = .ok (.aload_n 0, 1) := by decide +kernel
theorem dX7_show_24 : decode cX7_show 24 = .ok (.iconst (-1), 1) := by decide +kernel
theorem dX7_show_25 : decode cX7_show 25 = .ok (.invokevirtual 73, 3) := by decide +kernel
theorem dX7_show_28 : decode cX7_show 28 = .ok (.ireturn, 1) := by decide +kernel
theorem dX7_show_29 : decode cX7_show 29 = .ok (.iload_n 2, 1) := by decide +kernel
theorem dX7_show_30 : decode cX7_show 30 = .ok (.iconst (-1), 1) := by decide +kernel
theorem dX7_show_31 : decode cX7_show 31 = .ok (.if_icmp .ne 14, 3) := by decide +kernel
theorem dX7_show_34 : decode cX7_show 34 = .ok (.aload_n 0, 1) := by decide +kernel
theorem dX7_show_35 : decode cX7_show 35 = .ok (.getfield 11, 3) := by decide +kernel
theorem dX7_show_38 : decode cX7_show 38 = .ok (.iload_n 1, 1) := by decide +kernel
theorem dX7_show_39 : decode cX7_show 39 = .ok (.aaload, 1) := by decide +kernel
theorem dX7_show_40 : decode cX7_show 40 = .ok (.invokevirtual 124, 3) := by decide +kernel
theorem dX7_show_43 : decode cX7_show 43 = .ok (.iconst 0, 1) := by decide +kernel
theorem dX7_show_44 : decode cX7_show 44 = .ok (.ireturn, 1) := by decide +kernel
theorem dX7_show_45 : decode cX7_show 45 = .ok (.aload_n 0, 1) := by decide +kernel
theorem dX7_show_46 : decode cX7_show 46 = .ok (.getfield 11, 3) := by decide +kernel
theorem dX7_show_49 : decode cX7_show 49 = .ok (.iload_n 1, 1) := by decide +kernel
theorem dX7_show_50 : decode cX7_show 50 = .ok (.aaload, 1) := by decide +kernel
theorem dX7_show_51 : decode cX7_show 51 = .ok (.iload_n 2, 1) := by decide +kernel
theorem dX7_show_52 : decode cX7_show 52 = .ok (.invokevirtual 127, 3) := by decide +kernel
theorem dX7_show_55 : decode cX7_show 55 = .ok (.iconst 1, 1) := by decide +kernel
theorem dX7_show_56 : decode cX7_show 56 = .ok (.ireturn, 1) := by decide +kernel
theorem dX7_holds_0 : decode cX7_holds 0 = .ok (.iload_n 1, 1) := by decide +kernel
theorem dX7_holds_1 : decode cX7_holds 1 = .ok (.invokestatic 69, 3) := by decide +kernel
theorem dX7_holds_4 : decode cX7_holds 4 = .ok (.ifCond .eq 15, 3) := by decide +kernel
theorem dX7_holds_7 : decode cX7_holds 7 = .ok (.aload_n 0, 1) := by decide +kernel
theorem dX7_holds_8 : decode cX7_holds 8 = .ok (.getfield 11, 3) := by decide +kernel
theorem dX7_holds_11 : decode cX7_holds 11 = .ok (.iload_n 1, 1) := by decide +kernel
theorem dX7_holds_12 : decode cX7_holds 12 = .ok (.aaload, 1) := by decide +kernel
theorem dX7_holds_13 : decode cX7_holds 13 = .ok (.getfield 131, 3) := by decide +kernel
theorem dX7_holds_16 : decode cX7_holds 16 = .ok (.goto 4, 3) := by decide +kernel
theorem dX7_holds_19 : decode cX7_holds 19 = .ok (.iconst (-1), 1) := by decide +kernel
theorem dX7_holds_20 : decode cX7_holds 20 = .ok (.ireturn, 1) := by decide +kernel
theorem dX7_says_0 : decode cX7_says 0 = .ok (.iload_n 1, 1) := by decide +kernel
theorem dX7_says_1 : decode cX7_says 1 = .ok (.invokestatic 69, 3) := by decide +kernel
theorem dX7_says_4 : decode cX7_says 4 = .ok (.ifCond .eq 10, 3) := by decide +kernel
theorem dX7_says_7 : decode cX7_says 7 = .ok (.iload_n 2, 1) := by decide +kernel
theorem dX7_says_8 : decode cX7_says 8 = .ok (.invokestatic 134, 3) := by decide +kernel
theorem dX7_says_11 : decode cX7_says 11 = .ok (.ifCond .ne 9, 3) := by decide +kernel
theorem dX7_says_14 : decode cX7_says 14 = .ok (.aload_n 0, 1) := by decide +kernel
theorem dX7_says_15 : decode cX7_says 15 = .ok (.iconst (-1), 1) := by decide +kernel
theorem dX7_says_16 : decode cX7_says 16 = .ok (.invokevirtual 73, 3) := by decide +kernel
theorem dX7_says_19 : decode cX7_says 19 = .ok (.ireturn, 1) := by decide +kernel
theorem dX7_says_20 : decode cX7_says 20 = .ok (.aload_n 0, 1) := by decide +kernel
theorem dX7_says_21 : decode cX7_says 21 = .ok (.getfield 11, 3) := by decide +kernel
theorem dX7_says_24 : decode cX7_says 24 = .ok (.iload_n 1, 1) := by decide +kernel
theorem dX7_says_25 : decode cX7_says 25 = .ok (.aaload, 1) := by decide +kernel
theorem dX7_says_26 : decode cX7_says 26 = .ok (.invokevirtual 104, 3) := by decide +kernel
theorem dX7_says_29 : decode cX7_says 29 = .ok (.ifCond .eq 10, 3) := by decide +kernel
theorem dX7_says_32 : decode cX7_says 32 = .ok (.aload_n 0, 1) := by decide +kernel
theorem dX7_says_33 : decode cX7_says 33 = .ok (.bipush (-3), 2) := by decide +kernel
theorem dX7_says_35 : decode cX7_says 35 = .ok (.invokevirtual 73, 3) := by decide +kernel
theorem dX7_says_38 : decode cX7_says 38 = .ok (.ireturn, 1) := by decide +kernel
theorem dX7_says_39 : decode cX7_says 39 = .ok (.aload_n 0, 1) := by decide +kernel
theorem dX7_says_40 : decode cX7_says 40 = .ok (.getfield 11, 3) := by decide +kernel
theorem dX7_says_43 : decode cX7_says 43 = .ok (.iload_n 1, 1) := by decide +kernel
theorem dX7_says_44 : decode cX7_says 44 = .ok (.aaload, 1) := by decide +kernel
theorem dX7_says_45 : decode cX7_says 45 = .ok (.getfield 131, 3) := by decide +kernel
theorem dX7_says_48 : decode cX7_says 48 = .ok (.istore_n 3, 1) := by decide +kernel
theorem dX7_says_49 : decode cX7_says 49 = .ok (.aload_n 0, 1) := by decide +kernel
theorem dX7_says_50 : decode cX7_says 50 = .ok (.getfield 22, 3) := by decide +kernel
theorem dX7_says_53 : decode cX7_says 53 = .ok (.iload_n 3, 1) := by decide +kernel
theorem dX7_says_54 : decode cX7_says 54 = .ok (.invokevirtual 121, 3) := by decide +kernel
theorem dX7_says_57 : decode cX7_says 57 = .ok (.ifCond .eq 19, 3) := by decide +kernel
theorem dX7_says_60 : decode cX7_says 60 = .ok (.aload_n 0, 1) := by decide +kernel
theorem dX7_says_61 : decode cX7_says 61 = .ok (.getfield 22, 3) := by decide +kernel
theorem dX7_says_64 : decode cX7_says 64 = .ok (.getfield 137, 3) := by decide +kernel
theorem dX7_says_67 : decode cX7_says 67 = .ok (.iload_n 3, 1) := by decide +kernel
theorem dX7_says_68 : decode cX7_says 68 = .ok (.aaload, 1) := by decide +kernel
theorem dX7_says_69 : decode cX7_says 69 = .ok (.iload_n 2, 1) := by decide +kernel
theorem dX7_says_70 : decode cX7_says 70 = .ok (.invokevirtual 141, 3) := by decide +kernel
theorem dX7_says_73 : decode cX7_says 73 = .ok (.ifCond .ne 10, 3) := by decide +kernel
theorem dX7_says_76 : decode cX7_says 76 = .ok (.aload_n 0, 1) := by decide +kernel
theorem dX7_says_77 : decode cX7_says 77 = .ok (.bipush (-2), 2) := by decide +kernel
theorem dX7_says_79 : decode cX7_says 79 = .ok (.invokevirtual 73, 3) := by decide +kernel
theorem dX7_says_82 : decode cX7_says 82 = .ok (.ireturn, 1) := by decide +kernel
theorem dX7_says_83 : decode cX7_says 83 = .ok (.aload_n 0, 1) := by decide +kernel
theorem dX7_says_84 : decode cX7_says 84 = .ok (.iload_n 3, 1) := by decide +kernel
theorem dX7_says_85 : decode cX7_says 85 = .ok (.iload_n 2, 1) := by decide +kernel
theorem dX7_says_86 : decode cX7_says 86 = .ok (.invokevirtual 144, 3) := by decide +kernel
theorem dX7_says_89 : decode cX7_says 89 = .ok (.ireturn, 1) := by decide +kernel
theorem dX7_saying_0 : decode cX7_saying 0 = .ok (.aload_n 0, 1) := by decide +kernel
theorem dX7_saying_1 : decode cX7_saying 1 = .ok (.getfield 22, 3) := by decide +kernel
theorem dX7_saying_4 : decode cX7_saying 4 = .ok (.getfield 137, 3) := by decide +kernel
theorem dX7_saying_7 : decode cX7_saying 7 = .ok (.iload_n 1, 1) := by decide +kernel
theorem dX7_saying_8 : decode cX7_saying 8 = .ok (.aaload, 1) := by decide +kernel
theorem dX7_saying_9 : decode cX7_saying 9 = .ok (.astore_n 3, 1) := by decide +kernel
theorem dX7_saying_10 : decode cX7_saying 10 = .ok (.iload_n 2, 1) := by decide +kernel
theorem dX7_saying_11 : decode cX7_saying 11 = .ok (.tableswitch 59 1 6 #[37, 46, 37, 51, 46, 37], 37) := by decide +kernel
theorem dX7_saying_48 : decode cX7_saying 48 = .ok (.aload_n 0, 1) := by decide +kernel
theorem dX7_saying_49 : decode cX7_saying 49 = .ok (.getfield 22, 3) := by decide +kernel
theorem dX7_saying_52 : decode cX7_saying 52 = .ok (.iload_n 1, 1) := by decide +kernel
theorem dX7_saying_53 : decode cX7_saying 53 = .ok (.invokevirtual 148, 3) := by decide +kernel
theorem dX7_saying_56 : decode cX7_saying 56 = .ok (.ireturn, 1) := by decide +kernel
theorem dX7_saying_57 : decode cX7_saying 57 = .ok (.aload_n 3, 1) := by decide +kernel
theorem dX7_saying_58 : decode cX7_saying 58 = .ok (.invokevirtual 151, 3) := by decide +kernel
theorem dX7_saying_61 : decode cX7_saying 61 = .ok (.ireturn, 1) := by decide +kernel
theorem dX7_saying_62 : decode cX7_saying 62 = .ok (.bipush 12, 2) := by decide +kernel
theorem dX7_saying_64 : decode cX7_saying 64 = .ok (.aload_n 3, 1) := by decide +kernel
theorem dX7_saying_65 : decode cX7_saying 65 = .ok (.invokevirtual 155, 3) := by decide +kernel
theorem dX7_saying_68 : decode cX7_saying 68 = .ok (.isub, 1) := by decide +kernel
theorem dX7_saying_69 : decode cX7_saying 69 = .ok (.ireturn, 1) := by decide +kernel
theorem dX7_saying_70 : decode cX7_saying 70 = .ok (.aload_n 3, 1) := by decide +kernel
theorem dX7_saying_71 : decode cX7_saying 71 = .ok (.invokevirtual 155, 3) := by decide +kernel
theorem dX7_saying_74 : decode cX7_saying 74 = .ok (.ireturn, 1) := by decide +kernel
theorem dX7_person_0 : decode cX7_person 0 = .ok (.iload_n 1, 1) := by decide +kernel
theorem dX7_person_1 : decode cX7_person 1 = .ok (.invokestatic 158, 3) := by decide +kernel
theorem dX7_person_4 : decode cX7_person 4 = .ok (.ifCond .ne 10, 3) := by decide +kernel
theorem dX7_person_7 : decode cX7_person 7 = .ok (.aload_n 0, 1) := by decide +kernel
theorem dX7_person_8 : decode cX7_person 8 = .ok (.bipush (-6), 2) := by decide +kernel
theorem dX7_person_10 : decode cX7_person 10 = .ok (.invokevirtual 73, 3) := by decide +kernel
theorem dX7_person_13 : decode cX7_person 13 = .ok (.ireturn, 1) := by decide +kernel
theorem dX7_person_14 : decode cX7_person 14 = .ok (.aload_n 0, 1) := by decide +kernel
theorem dX7_person_15 : decode cX7_person 15 = .ok (.getfield 22, 3) := by decide +kernel
theorem dX7_person_18 : decode cX7_person 18 = .ok (.invokevirtual 161, 3) := by decide +kernel
theorem dX7_person_21 : decode cX7_person 21 = .ok (.ifCond .eq 10, 3) := by decide +kernel
theorem dX7_person_24 : decode cX7_person 24 = .ok (.aload_n 0, 1) := by decide +kernel
theorem dX7_person_25 : decode cX7_person 25 = .ok (.bipush (-7), 2) := by decide +kernel
theorem dX7_person_27 : decode cX7_person 27 = .ok (.invokevirtual 73, 3) := by decide +kernel
theorem dX7_person_30 : decode cX7_person 30 = .ok (.ireturn, 1) := by decide +kernel
theorem dX7_person_31 : decode cX7_person 31 = .ok (.aload_n 0, 1) := by decide +kernel
theorem dX7_person_32 : decode cX7_person 32 = .ok (.getfield 22, 3) := by decide +kernel
theorem dX7_person_35 : decode cX7_person 35 = .ok (.iload_n 1, 1) := by decide +kernel
theorem dX7_person_36 : decode cX7_person 36 = .ok (.invokevirtual 164, 3) := by decide +kernel
theorem dX7_person_39 : decode cX7_person 39 = .ok (.ireturn, 1) := by decide +kernel
theorem dX7_garment_0 : decode cX7_garment 0 = .ok (.iload_n 1, 1) := by decide +kernel
theorem dX7_garment_1 : decode cX7_garment 1 = .ok (.invokestatic 134, 3) := by decide +kernel
theorem dX7_garment_4 : decode cX7_garment 4 = .ok (.ifCond .ne 9, 3) := by decide +kernel
theorem dX7_garment_7 : decode cX7_garment 7 = .ok (.aload_n 0, 1) := by decide +kernel
theorem dX7_garment_8 : decode cX7_garment 8 = .ok (.iconst (-1), 1) := by decide +kernel
theorem dX7_garment_9 : decode cX7_garment 9 = .ok (.invokevirtual 73, 3) := by decide +kernel
theorem dX7_garment_12 : decode cX7_garment 12 = .ok (.ireturn, 1) := by decide +kernel
theorem dX7_garment_13 : decode cX7_garment 13 = .ok (.iload_n 2, 1) := by decide +kernel
theorem dX7_garment_14 : decode cX7_garment 14 = .ok (.invokestatic 158, 3) := by decide +kernel
theorem dX7_garment_17 : decode cX7_garment 17 = .ok (.ifCond .ne 10, 3) := by decide +kernel
theorem dX7_garment_20 : decode cX7_garment 20 = .ok (.aload_n 0, 1) := by decide +kernel
theorem dX7_garment_21 : decode cX7_garment 21 = .ok (.bipush (-6), 2) := by decide +kernel
theorem dX7_garment_23 : decode cX7_garment 23 = .ok (.invokevirtual 73, 3) := by decide +kernel
theorem dX7_garment_26 : decode cX7_garment 26 = .ok (.ireturn, 1) := by decide +kernel
theorem dX7_garment_27 : decode cX7_garment 27 = .ok (.aload_n 0, 1) := by decide +kernel
theorem dX7_garment_28 : decode cX7_garment 28 = .ok (.getfield 22, 3) := by decide +kernel
theorem dX7_garment_31 : decode cX7_garment 31 = .ok (.invokevirtual 167, 3) := by decide +kernel
theorem dX7_garment_34 : decode cX7_garment 34 = .ok (.ifCond .eq 10, 3) := by decide +kernel
theorem dX7_garment_37 : decode cX7_garment 37 = .ok (.aload_n 0, 1) := by decide +kernel
theorem dX7_garment_38 : decode cX7_garment 38 = .ok (.bipush (-7), 2) := by decide +kernel
theorem dX7_garment_40 : decode cX7_garment 40 = .ok (.invokevirtual 73, 3) := by decide +kernel
theorem dX7_garment_43 : decode cX7_garment 43 = .ok (.ireturn, 1) := by decide +kernel
theorem dX7_garment_44 : decode cX7_garment 44 = .ok (.aload_n 0, 1) := by decide +kernel
theorem dX7_garment_45 : decode cX7_garment 45 = .ok (.getfield 22, 3) := by decide +kernel
theorem dX7_garment_48 : decode cX7_garment 48 = .ok (.iload_n 1, 1) := by decide +kernel
theorem dX7_garment_49 : decode cX7_garment 49 = .ok (.iload_n 2, 1) := by decide +kernel
theorem dX7_garment_50 : decode cX7_garment 50 = .ok (.invokevirtual 170, 3) := by decide +kernel
theorem dX7_garment_53 : decode cX7_garment 53 = .ok (.ireturn, 1) := by decide +kernel
theorem dX7_own_0 : decode cX7_own 0 = .ok (.aload_n 0, 1) := by decide +kernel
theorem dX7_own_1 : decode cX7_own 1 = .ok (.getfield 22, 3) := by decide +kernel
theorem dX7_own_4 : decode cX7_own 4 = .ok (.iload_n 1, 1) := by decide +kernel
theorem dX7_own_5 : decode cX7_own 5 = .ok (.invokevirtual 173, 3) := by decide +kernel
theorem dX7_own_8 : decode cX7_own 8 = .ok (.ifCond .ne 9, 3) := by decide +kernel
theorem dX7_own_11 : decode cX7_own 11 = .ok (.aload_n 0, 1) := by decide +kernel
theorem dX7_own_12 : decode cX7_own 12 = .ok (.iconst (-1), 1) := by decide +kernel
theorem dX7_own_13 : decode cX7_own 13 = .ok (.invokevirtual 73, 3) := by decide +kernel
theorem dX7_own_16 : decode cX7_own 16 = .ok (.ireturn, 1) := by decide +kernel
theorem dX7_own_17 : decode cX7_own 17 = .ok (.iload_n 2, 1) := by decide +kernel
theorem dX7_own_18 : decode cX7_own 18 = .ok (.invokestatic 176, 3) := by decide +kernel
theorem dX7_own_21 : decode cX7_own 21 = .ok (.ifCond .eq 10, 3) := by decide +kernel
theorem dX7_own_24 : decode cX7_own 24 = .ok (.iload_n 3, 1) := by decide +kernel
theorem dX7_own_25 : decode cX7_own 25 = .ok (.invokestatic 158, 3) := by decide +kernel
theorem dX7_own_28 : decode cX7_own 28 = .ok (.ifCond .ne 10, 3) := by decide +kernel
theorem dX7_own_31 : decode cX7_own 31 = .ok (.aload_n 0, 1) := by decide +kernel
theorem dX7_own_32 : decode cX7_own 32 = .ok (.bipush (-6), 2) := by decide +kernel
theorem dX7_own_34 : decode cX7_own 34 = .ok (.invokevirtual 73, 3) := by decide +kernel
theorem dX7_own_37 : decode cX7_own 37 = .ok (.ireturn, 1) := by decide +kernel
theorem dX7_own_38 : decode cX7_own 38 = .ok (.aload_n 0, 1) := by decide +kernel
theorem dX7_own_39 : decode cX7_own 39 = .ok (.getfield 22, 3) := by decide +kernel
theorem dX7_own_42 : decode cX7_own 42 = .ok (.getfield 179, 3) := by decide +kernel
theorem dX7_own_45 : decode cX7_own 45 = .ok (.iload_n 1, 1) := by decide +kernel
theorem dX7_own_46 : decode cX7_own 46 = .ok (.aaload, 1) := by decide +kernel
theorem dX7_own_47 : decode cX7_own 47 = .ok (.getfield 183, 3) := by decide +kernel
theorem dX7_own_50 : decode cX7_own 50 = .ok (.iload_n 2, 1) := by decide +kernel
theorem dX7_own_51 : decode cX7_own 51 = .ok (.iaload, 1) := by decide +kernel
theorem dX7_own_52 : decode cX7_own 52 = .ok (.istore 4, 2) := by decide +kernel
theorem dX7_own_54 : decode cX7_own 54 = .ok (.aload_n 0, 1) := by decide +kernel
theorem dX7_own_55 : decode cX7_own 55 = .ok (.getfield 22, 3) := by decide +kernel
theorem dX7_own_58 : decode cX7_own 58 = .ok (.getfield 179, 3) := by decide +kernel
theorem dX7_own_61 : decode cX7_own 61 = .ok (.iload_n 1, 1) := by decide +kernel
theorem dX7_own_62 : decode cX7_own 62 = .ok (.aaload, 1) := by decide +kernel
theorem dX7_own_63 : decode cX7_own 63 = .ok (.getfield 183, 3) := by decide +kernel
theorem dX7_own_66 : decode cX7_own 66 = .ok (.iload_n 2, 1) := by decide +kernel
theorem dX7_own_67 : decode cX7_own 67 = .ok (.iload_n 3, 1) := by decide +kernel
theorem dX7_own_68 : decode cX7_own 68 = .ok (.iastore, 1) := by decide +kernel
theorem dX7_own_69 : decode cX7_own 69 = .ok (.iload 4, 2) := by decide +kernel
theorem dX7_own_71 : decode cX7_own 71 = .ok (.ireturn, 1) := by decide +kernel
theorem dX7_habit_0 : decode cX7_habit 0 = .ok (.aload_n 0, 1) := by decide +kernel
theorem dX7_habit_1 : decode cX7_habit 1 = .ok (.getfield 22, 3) := by decide +kernel
theorem dX7_habit_4 : decode cX7_habit 4 = .ok (.iload_n 1, 1) := by decide +kernel
theorem dX7_habit_5 : decode cX7_habit 5 = .ok (.invokevirtual 121, 3) := by decide +kernel
theorem dX7_habit_8 : decode cX7_habit 8 = .ok (.ifCond .ne 9, 3) := by decide +kernel
theorem dX7_habit_11 : decode cX7_habit 11 = .ok (.aload_n 0, 1) := by decide +kernel
theorem dX7_habit_12 : decode cX7_habit 12 = .ok (.iconst (-1), 1) := by decide +kernel
theorem dX7_habit_13 : decode cX7_habit 13 = .ok (.invokevirtual 73, 3) := by decide +kernel
theorem dX7_habit_16 : decode cX7_habit 16 = .ok (.ireturn, 1) := by decide +kernel
theorem dX7_habit_17 : decode cX7_habit 17 = .ok (.iload_n 2, 1) := by decide +kernel
theorem dX7_habit_18 : decode cX7_habit 18 = .ok (.invokestatic 176, 3) := by decide +kernel
theorem dX7_habit_21 : decode cX7_habit 21 = .ok (.ifCond .eq 40, 3) := by decide +kernel
theorem dX7_habit_24 : decode cX7_habit 24 = .ok (.iload_n 3, 1) := by decide +kernel
theorem dX7_habit_25 : decode cX7_habit 25 = .ok (.invokestatic 158, 3) := by decide +kernel
theorem dX7_habit_28 : decode cX7_habit 28 = .ok (.ifCond .eq 33, 3) := by decide +kernel
theorem dX7_habit_31 : decode cX7_habit 31 = .ok (.iload 4, 2) := by decide +kernel
theorem dX7_habit_33 : decode cX7_habit 33 = .ok (.invokestatic 158, 3) := by decide +kernel
theorem dX7_habit_36 : decode cX7_habit 36 = .ok (.ifCond .eq 25, 3) := by decide +kernel
theorem dX7_habit_39 : decode cX7_habit 39 = .ok (.iload_n 3, 1) := by decide +kernel
theorem dX7_habit_40 : decode cX7_habit 40 = .ok (.ifCond .ne 7, 3) := by decide +kernel
theorem dX7_habit_43 : decode cX7_habit 43 = .ok (.iconst 1, 1) := by decide +kernel
theorem dX7_habit_44 : decode cX7_habit 44 = .ok (.goto 4, 3) := by decide +kernel
theorem dX7_habit_47 : decode cX7_habit 47 = .ok (.iconst 0, 1) := by decide +kernel
theorem dX7_habit_48 : decode cX7_habit 48 = .ok (.iload 4, 2) := by decide +kernel
theorem dX7_habit_50 : decode cX7_habit 50 = .ok (.ifCond .ne 7, 3) := by decide +kernel
theorem dX7_habit_53 : decode cX7_habit 53 = .ok (.iconst 1, 1) := by decide +kernel
theorem dX7_habit_54 : decode cX7_habit 54 = .ok (.goto 4, 3) := by decide +kernel
theorem dX7_habit_57 : decode cX7_habit 57 = .ok (.iconst 0, 1) := by decide +kernel
theorem dX7_habit_58 : decode cX7_habit 58 = .ok (.if_icmp .eq 10, 3) := by decide +kernel
theorem dX7_habit_61 : decode cX7_habit 61 = .ok (.aload_n 0, 1) := by decide +kernel
theorem dX7_habit_62 : decode cX7_habit 62 = .ok (.bipush (-6), 2) := by decide +kernel
theorem dX7_habit_64 : decode cX7_habit 64 = .ok (.invokevirtual 73, 3) := by decide +kernel
theorem dX7_habit_67 : decode cX7_habit 67 = .ok (.ireturn, 1) := by decide +kernel
theorem dX7_habit_68 : decode cX7_habit 68 = .ok (.aload_n 0, 1) := by decide +kernel
theorem dX7_habit_69 : decode cX7_habit 69 = .ok (.getfield 22, 3) := by decide +kernel
theorem dX7_habit_72 : decode cX7_habit 72 = .ok (.getfield 137, 3) := by decide +kernel
theorem dX7_habit_75 : decode cX7_habit 75 = .ok (.iload_n 1, 1) := by decide +kernel
theorem dX7_habit_76 : decode cX7_habit 76 = .ok (.aaload, 1) := by decide +kernel
theorem dX7_habit_77 : decode cX7_habit 77 = .ok (.getfield 188, 3) := by decide +kernel
theorem dX7_habit_80 : decode cX7_habit 80 = .ok (.iload_n 2, 1) := by decide +kernel
theorem dX7_habit_81 : decode cX7_habit 81 = .ok (.iaload, 1) := by decide +kernel
theorem dX7_habit_82 : decode cX7_habit 82 = .ok (.istore 5, 2) := by decide +kernel
theorem dX7_habit_84 : decode cX7_habit 84 = .ok (.aload_n 0, 1) := by decide +kernel
theorem dX7_habit_85 : decode cX7_habit 85 = .ok (.getfield 22, 3) := by decide +kernel
theorem dX7_habit_88 : decode cX7_habit 88 = .ok (.getfield 137, 3) := by decide +kernel
theorem dX7_habit_91 : decode cX7_habit 91 = .ok (.iload_n 1, 1) := by decide +kernel
theorem dX7_habit_92 : decode cX7_habit 92 = .ok (.aaload, 1) := by decide +kernel
theorem dX7_habit_93 : decode cX7_habit 93 = .ok (.iload_n 2, 1) := by decide +kernel
theorem dX7_habit_94 : decode cX7_habit 94 = .ok (.iload_n 3, 1) := by decide +kernel
theorem dX7_habit_95 : decode cX7_habit 95 = .ok (.iload 4, 2) := by decide +kernel
theorem dX7_habit_97 : decode cX7_habit 97 = .ok (.invokevirtual 191, 3) := by decide +kernel
theorem dX7_habit_100 : decode cX7_habit 100 = .ok (.iload 5, 2) := by decide +kernel
theorem dX7_habit_102 : decode cX7_habit 102 = .ok (.ireturn, 1) := by decide +kernel
theorem dX7_wear_0 : decode cX7_wear 0 = .ok (.aload_n 0, 1) := by decide +kernel
theorem dX7_wear_1 : decode cX7_wear 1 = .ok (.getfield 22, 3) := by decide +kernel
theorem dX7_wear_4 : decode cX7_wear 4 = .ok (.iload_n 1, 1) := by decide +kernel
theorem dX7_wear_5 : decode cX7_wear 5 = .ok (.invokevirtual 121, 3) := by decide +kernel
theorem dX7_wear_8 : decode cX7_wear 8 = .ok (.ifCond .eq 19, 3) := by decide +kernel
theorem dX7_wear_11 : decode cX7_wear 11 = .ok (.iload_n 2, 1) := by decide +kernel
theorem dX7_wear_12 : decode cX7_wear 12 = .ok (.iconst (-1), 1) := by decide +kernel
theorem dX7_wear_13 : decode cX7_wear 13 = .ok (.if_icmp .eq 20, 3) := by decide +kernel
theorem dX7_wear_16 : decode cX7_wear 16 = .ok (.aload_n 0, 1) := by decide +kernel
theorem dX7_wear_17 : decode cX7_wear 17 = .ok (.getfield 22, 3) := by decide +kernel
theorem dX7_wear_20 : decode cX7_wear 20 = .ok (.iload_n 2, 1) := by decide +kernel
theorem dX7_wear_21 : decode cX7_wear 21 = .ok (.invokevirtual 173, 3) := by decide +kernel
theorem dX7_wear_24 : decode cX7_wear 24 = .ok (.ifCond .ne 9, 3) := by decide +kernel
theorem dX7_wear_27 : decode cX7_wear 27 = .ok (.aload_n 0, 1) := by decide +kernel
theorem dX7_wear_28 : decode cX7_wear 28 = .ok (.iconst (-1), 1) := by decide +kernel
theorem dX7_wear_29 : decode cX7_wear 29 = .ok (.invokevirtual 195, 3) := by decide +kernel
theorem dX7_wear_32 : decode cX7_wear 32 = .ok (.ireturn, 1) := by decide +kernel
theorem dX7_wear_33 : decode cX7_wear 33 = .ok (.aload_n 0, 1) := by decide +kernel
theorem dX7_wear_34 : decode cX7_wear 34 = .ok (.getfield 22, 3) := by decide +kernel
theorem dX7_wear_37 : decode cX7_wear 37 = .ok (.getfield 137, 3) := by decide +kernel
theorem dX7_wear_40 : decode cX7_wear 40 = .ok (.iload_n 1, 1) := by decide +kernel
theorem dX7_wear_41 : decode cX7_wear 41 = .ok (.aaload, 1) := by decide +kernel
theorem dX7_wear_42 : decode cX7_wear 42 = .ok (.getfield 198, 3) := by decide +kernel
theorem dX7_wear_45 : decode cX7_wear 45 = .ok (.istore_n 3, 1) := by decide +kernel
theorem dX7_wear_46 : decode cX7_wear 46 = .ok (.aload_n 0, 1) := by decide +kernel
theorem dX7_wear_47 : decode cX7_wear 47 = .ok (.getfield 22, 3) := by decide +kernel
theorem dX7_wear_50 : decode cX7_wear 50 = .ok (.getfield 137, 3) := by decide +kernel
theorem dX7_wear_53 : decode cX7_wear 53 = .ok (.iload_n 1, 1) := by decide +kernel
theorem dX7_wear_54 : decode cX7_wear 54 = .ok (.aaload, 1) := by decide +kernel
theorem dX7_wear_55 : decode cX7_wear 55 = .ok (.iload_n 2, 1) := by decide +kernel
theorem dX7_wear_56 : decode cX7_wear 56 = .ok (.putfield 198, 3) := by decide +kernel
theorem dX7_wear_59 : decode cX7_wear 59 = .ok (.iload_n 3, 1) := by decide +kernel
theorem dX7_wear_60 : decode cX7_wear 60 = .ok (.ireturn, 1) := by decide +kernel
theorem dX7_will_0 : decode cX7_will 0 = .ok (.aload_n 0, 1) := by decide +kernel
theorem dX7_will_1 : decode cX7_will 1 = .ok (.getfield 22, 3) := by decide +kernel
theorem dX7_will_4 : decode cX7_will 4 = .ok (.iload_n 1, 1) := by decide +kernel
theorem dX7_will_5 : decode cX7_will 5 = .ok (.invokevirtual 173, 3) := by decide +kernel
theorem dX7_will_8 : decode cX7_will 8 = .ok (.ifCond .ne 9, 3) := by decide +kernel
theorem dX7_will_11 : decode cX7_will 11 = .ok (.aload_n 0, 1) := by decide +kernel
theorem dX7_will_12 : decode cX7_will 12 = .ok (.iconst (-1), 1) := by decide +kernel
theorem dX7_will_13 : decode cX7_will 13 = .ok (.invokevirtual 73, 3) := by decide +kernel
theorem dX7_will_16 : decode cX7_will 16 = .ok (.ireturn, 1) := by decide +kernel
theorem dX7_will_17 : decode cX7_will 17 = .ok (.iload_n 2, 1) := by decide +kernel
theorem dX7_will_18 : decode cX7_will 18 = .ok (.invokestatic 158, 3) := by decide +kernel
theorem dX7_will_21 : decode cX7_will 21 = .ok (.ifCond .ne 10, 3) := by decide +kernel
theorem dX7_will_24 : decode cX7_will 24 = .ok (.aload_n 0, 1) := by decide +kernel
theorem dX7_will_25 : decode cX7_will 25 = .ok (.bipush (-6), 2) := by decide +kernel
theorem dX7_will_27 : decode cX7_will 27 = .ok (.invokevirtual 73, 3) := by decide +kernel
theorem dX7_will_30 : decode cX7_will 30 = .ok (.ireturn, 1) := by decide +kernel
theorem dX7_will_31 : decode cX7_will 31 = .ok (.aload_n 0, 1) := by decide +kernel
theorem dX7_will_32 : decode cX7_will 32 = .ok (.getfield 22, 3) := by decide +kernel
theorem dX7_will_35 : decode cX7_will 35 = .ok (.getfield 179, 3) := by decide +kernel
theorem dX7_will_38 : decode cX7_will 38 = .ok (.iload_n 1, 1) := by decide +kernel
theorem dX7_will_39 : decode cX7_will 39 = .ok (.aaload, 1) := by decide +kernel
theorem dX7_will_40 : decode cX7_will 40 = .ok (.getfield 201, 3) := by decide +kernel
theorem dX7_will_43 : decode cX7_will 43 = .ok (.istore_n 3, 1) := by decide +kernel
theorem dX7_will_44 : decode cX7_will 44 = .ok (.aload_n 0, 1) := by decide +kernel
theorem dX7_will_45 : decode cX7_will 45 = .ok (.getfield 22, 3) := by decide +kernel
theorem dX7_will_48 : decode cX7_will 48 = .ok (.getfield 179, 3) := by decide +kernel
theorem dX7_will_51 : decode cX7_will 51 = .ok (.iload_n 1, 1) := by decide +kernel
theorem dX7_will_52 : decode cX7_will 52 = .ok (.aaload, 1) := by decide +kernel
theorem dX7_will_53 : decode cX7_will 53 = .ok (.iload_n 2, 1) := by decide +kernel
theorem dX7_will_54 : decode cX7_will 54 = .ok (.putfield 201, 3) := by decide +kernel
theorem dX7_will_57 : decode cX7_will 57 = .ok (.iload_n 3, 1) := by decide +kernel
theorem dX7_will_58 : decode cX7_will 58 = .ok (.ireturn, 1) := by decide +kernel
theorem dX7_garmentOf_0 : decode cX7_garmentOf 0 = .ok (.aload_n 0, 1) := by decide +kernel
theorem dX7_garmentOf_1 : decode cX7_garmentOf 1 = .ok (.getfield 22, 3) := by decide +kernel
theorem dX7_garmentOf_4 : decode cX7_garmentOf 4 = .ok (.iload_n 1, 1) := by decide +kernel
theorem dX7_garmentOf_5 : decode cX7_garmentOf 5 = .ok (.invokevirtual 121, 3) := by decide +kernel
theorem dX7_garmentOf_8 : decode cX7_garmentOf 8 = .ok (.ifCond .ne 10, 3) := by decide +kernel
theorem dX7_garmentOf_11 : decode cX7_garmentOf 11 = .ok (.aload_n 0, 1) := by decide +kernel
theorem dX7_garmentOf_12 : decode cX7_garmentOf 12 = .ok (.bipush (-5), 2) := by decide +kernel
theorem dX7_garmentOf_14 : decode cX7_garmentOf 14 = .ok (.invokevirtual 73, 3) := by decide +kernel
theorem dX7_garmentOf_17 : decode cX7_garmentOf 17 = .ok (.ireturn, 1) := by decide +kernel
theorem dX7_garmentOf_18 : decode cX7_garmentOf 18 = .ok (.aload_n 0, 1) := by decide +kernel
theorem dX7_garmentOf_19 : decode cX7_garmentOf 19 = .ok (.getfield 22, 3) := by decide +kernel
theorem dX7_garmentOf_22 : decode cX7_garmentOf 22 = .ok (.getfield 137, 3) := by decide +kernel
theorem dX7_garmentOf_25 : decode cX7_garmentOf 25 = .ok (.iload_n 1, 1) := by decide +kernel
theorem dX7_garmentOf_26 : decode cX7_garmentOf 26 = .ok (.aaload, 1) := by decide +kernel
theorem dX7_garmentOf_27 : decode cX7_garmentOf 27 = .ok (.astore_n 3, 1) := by decide +kernel
theorem dX7_garmentOf_28 : decode cX7_garmentOf 28 = .ok (.iload_n 2, 1) := by decide +kernel
theorem dX7_garmentOf_29 : decode cX7_garmentOf 29 = .ok (.ifCond .ne 8, 3) := by decide +kernel
theorem dX7_garmentOf_32 : decode cX7_garmentOf 32 = .ok (.aload_n 3, 1) := by decide +kernel
theorem dX7_garmentOf_33 : decode cX7_garmentOf 33 = .ok (.getfield 204, 3) := by decide +kernel
theorem dX7_garmentOf_36 : decode cX7_garmentOf 36 = .ok (.ireturn, 1) := by decide +kernel
theorem dX7_garmentOf_37 : decode cX7_garmentOf 37 = .ok (.iload_n 2, 1) := by decide +kernel
theorem dX7_garmentOf_38 : decode cX7_garmentOf 38 = .ok (.iconst 1, 1) := by decide +kernel
theorem dX7_garmentOf_39 : decode cX7_garmentOf 39 = .ok (.if_icmp .ne 8, 3) := by decide +kernel
theorem dX7_garmentOf_42 : decode cX7_garmentOf 42 = .ok (.aload_n 3, 1) := by decide +kernel
theorem dX7_garmentOf_43 : decode cX7_garmentOf 43 = .ok (.getfield 207, 3) := by decide +kernel
theorem dX7_garmentOf_46 : decode cX7_garmentOf 46 = .ok (.ireturn, 1) := by decide +kernel
theorem dX7_garmentOf_47 : decode cX7_garmentOf 47 = .ok (.iload_n 2, 1) := by decide +kernel
theorem dX7_garmentOf_48 : decode cX7_garmentOf 48 = .ok (.iconst 2, 1) := by decide +kernel
theorem dX7_garmentOf_49 : decode cX7_garmentOf 49 = .ok (.if_icmp .ne 10, 3) := by decide +kernel
theorem dX7_garmentOf_52 : decode cX7_garmentOf 52 = .ok (.aload_n 3, 1) := by decide +kernel
theorem dX7_garmentOf_53 : decode cX7_garmentOf 53 = .ok (.getfield 198, 3) := by decide +kernel
theorem dX7_garmentOf_56 : decode cX7_garmentOf 56 = .ok (.iconst 1, 1) := by decide +kernel
theorem dX7_garmentOf_57 : decode cX7_garmentOf 57 = .ok (.iadd, 1) := by decide +kernel
theorem dX7_garmentOf_58 : decode cX7_garmentOf 58 = .ok (.ireturn, 1) := by decide +kernel
theorem dX7_garmentOf_59 : decode cX7_garmentOf 59 = .ok (.iload_n 2, 1) := by decide +kernel
theorem dX7_garmentOf_60 : decode cX7_garmentOf 60 = .ok (.bipush 10, 2) := by decide +kernel
theorem dX7_garmentOf_62 : decode cX7_garmentOf 62 = .ok (.bipush 21, 2) := by decide +kernel
theorem dX7_garmentOf_64 : decode cX7_garmentOf 64 = .ok (.invokestatic 77, 3) := by decide +kernel
theorem dX7_garmentOf_67 : decode cX7_garmentOf 67 = .ok (.ifCond .eq 13, 3) := by decide +kernel
theorem dX7_garmentOf_70 : decode cX7_garmentOf 70 = .ok (.aload_n 3, 1) := by decide +kernel
theorem dX7_garmentOf_71 : decode cX7_garmentOf 71 = .ok (.getfield 188, 3) := by decide +kernel
theorem dX7_garmentOf_74 : decode cX7_garmentOf 74 = .ok (.iload_n 2, 1) := by decide +kernel
theorem dX7_garmentOf_75 : decode cX7_garmentOf 75 = .ok (.bipush 10, 2) := by decide +kernel
theorem dX7_garmentOf_77 : decode cX7_garmentOf 77 = .ok (.isub, 1) := by decide +kernel
theorem dX7_garmentOf_78 : decode cX7_garmentOf 78 = .ok (.iaload, 1) := by decide +kernel
theorem dX7_garmentOf_79 : decode cX7_garmentOf 79 = .ok (.ireturn, 1) := by decide +kernel
theorem dX7_garmentOf_80 : decode cX7_garmentOf 80 = .ok (.iload_n 2, 1) := by decide +kernel
theorem dX7_garmentOf_81 : decode cX7_garmentOf 81 = .ok (.bipush 30, 2) := by decide +kernel
theorem dX7_garmentOf_83 : decode cX7_garmentOf 83 = .ok (.bipush 41, 2) := by decide +kernel
theorem dX7_garmentOf_85 : decode cX7_garmentOf 85 = .ok (.invokestatic 77, 3) := by decide +kernel
theorem dX7_garmentOf_88 : decode cX7_garmentOf 88 = .ok (.ifCond .eq 13, 3) := by decide +kernel
theorem dX7_garmentOf_91 : decode cX7_garmentOf 91 = .ok (.aload_n 3, 1) := by decide +kernel
theorem dX7_garmentOf_92 : decode cX7_garmentOf 92 = .ok (.getfield 210, 3) := by decide +kernel
theorem dX7_garmentOf_95 : decode cX7_garmentOf 95 = .ok (.iload_n 2, 1) := by decide +kernel
theorem dX7_garmentOf_96 : decode cX7_garmentOf 96 = .ok (.bipush 30, 2) := by decide +kernel
theorem dX7_garmentOf_98 : decode cX7_garmentOf 98 = .ok (.isub, 1) := by decide +kernel
theorem dX7_garmentOf_99 : decode cX7_garmentOf 99 = .ok (.iaload, 1) := by decide +kernel
theorem dX7_garmentOf_100 : decode cX7_garmentOf 100 = .ok (.ireturn, 1) := by decide +kernel
theorem dX7_garmentOf_101 : decode cX7_garmentOf 101 = .ok (.iload_n 2, 1) := by decide +kernel
theorem dX7_garmentOf_102 : decode cX7_garmentOf 102 = .ok (.bipush 50, 2) := by decide +kernel
theorem dX7_garmentOf_104 : decode cX7_garmentOf 104 = .ok (.bipush 61, 2) := by decide +kernel
theorem dX7_garmentOf_106 : decode cX7_garmentOf 106 = .ok (.invokestatic 77, 3) := by decide +kernel
theorem dX7_garmentOf_109 : decode cX7_garmentOf 109 = .ok (.ifCond .eq 16, 3) := by decide +kernel
theorem dX7_garmentOf_112 : decode cX7_garmentOf 112 = .ok (.aload_n 0, 1) := by decide +kernel
theorem dX7_garmentOf_113 : decode cX7_garmentOf 113 = .ok (.getfield 22, 3) := by decide +kernel
theorem dX7_garmentOf_116 : decode cX7_garmentOf 116 = .ok (.iload_n 1, 1) := by decide +kernel
theorem dX7_garmentOf_117 : decode cX7_garmentOf 117 = .ok (.iload_n 2, 1) := by decide +kernel
theorem dX7_garmentOf_118 : decode cX7_garmentOf 118 = .ok (.bipush 50, 2) := by decide +kernel
theorem dX7_garmentOf_120 : decode cX7_garmentOf 120 = .ok (.isub, 1) := by decide +kernel
theorem dX7_garmentOf_121 : decode cX7_garmentOf 121 = .ok (.invokevirtual 213, 3) := by decide +kernel
theorem dX7_garmentOf_124 : decode cX7_garmentOf 124 = .ok (.ireturn, 1) := by decide +kernel
theorem dX7_garmentOf_125 : decode cX7_garmentOf 125 = .ok (.aload_n 0, 1) := by decide +kernel
theorem dX7_garmentOf_126 : decode cX7_garmentOf 126 = .ok (.bipush (-5), 2) := by decide +kernel
theorem dX7_garmentOf_128 : decode cX7_garmentOf 128 = .ok (.invokevirtual 73, 3) := by decide +kernel
theorem dX7_garmentOf_131 : decode cX7_garmentOf 131 = .ok (.ireturn, 1) := by decide +kernel
theorem dX7_personOf_0 : decode cX7_personOf 0 = .ok (.aload_n 0, 1) := by decide +kernel
theorem dX7_personOf_1 : decode cX7_personOf 1 = .ok (.getfield 22, 3) := by decide +kernel
theorem dX7_personOf_4 : decode cX7_personOf 4 = .ok (.iload_n 1, 1) := by decide +kernel
theorem dX7_personOf_5 : decode cX7_personOf 5 = .ok (.invokevirtual 173, 3) := by decide +kernel
theorem dX7_personOf_8 : decode cX7_personOf 8 = .ok (.ifCond .ne 10, 3) := by decide +kernel
theorem dX7_personOf_11 : decode cX7_personOf 11 = .ok (.aload_n 0, 1) := by decide +kernel
theorem dX7_personOf_12 : decode cX7_personOf 12 = .ok (.bipush (-5), 2) := by decide +kernel
theorem dX7_personOf_14 : decode cX7_personOf 14 = .ok (.invokevirtual 73, 3) := by decide +kernel
theorem dX7_personOf_17 : decode cX7_personOf 17 = .ok (.ireturn, 1) := by decide +kernel
theorem dX7_personOf_18 : decode cX7_personOf 18 = .ok (.iload_n 2, 1) := by decide +kernel
theorem dX7_personOf_19 : decode cX7_personOf 19 = .ok (.ifCond .ne 16, 3) := by decide +kernel
theorem dX7_personOf_22 : decode cX7_personOf 22 = .ok (.aload_n 0, 1) := by decide +kernel
theorem dX7_personOf_23 : decode cX7_personOf 23 = .ok (.getfield 22, 3) := by decide +kernel
theorem dX7_personOf_26 : decode cX7_personOf 26 = .ok (.getfield 179, 3) := by decide +kernel
theorem dX7_personOf_29 : decode cX7_personOf 29 = .ok (.iload_n 1, 1) := by decide +kernel
theorem dX7_personOf_30 : decode cX7_personOf 30 = .ok (.aaload, 1) := by decide +kernel
theorem dX7_personOf_31 : decode cX7_personOf 31 = .ok (.getfield 201, 3) := by decide +kernel
theorem dX7_personOf_34 : decode cX7_personOf 34 = .ok (.ireturn, 1) := by decide +kernel
theorem dX7_personOf_35 : decode cX7_personOf 35 = .ok (.iload_n 2, 1) := by decide +kernel
theorem dX7_personOf_36 : decode cX7_personOf 36 = .ok (.iconst 1, 1) := by decide +kernel
theorem dX7_personOf_37 : decode cX7_personOf 37 = .ok (.if_icmp .ne 12, 3) := by decide +kernel
theorem dX7_personOf_40 : decode cX7_personOf 40 = .ok (.aload_n 0, 1) := by decide +kernel
theorem dX7_personOf_41 : decode cX7_personOf 41 = .ok (.getfield 22, 3) := by decide +kernel
theorem dX7_personOf_44 : decode cX7_personOf 44 = .ok (.iload_n 1, 1) := by decide +kernel
theorem dX7_personOf_45 : decode cX7_personOf 45 = .ok (.invokevirtual 216, 3) := by decide +kernel
theorem dX7_personOf_48 : decode cX7_personOf 48 = .ok (.ireturn, 1) := by decide +kernel
theorem dX7_personOf_49 : decode cX7_personOf 49 = .ok (.iload_n 2, 1) := by decide +kernel
theorem dX7_personOf_50 : decode cX7_personOf 50 = .ok (.bipush 10, 2) := by decide +kernel
theorem dX7_personOf_52 : decode cX7_personOf 52 = .ok (.bipush 21, 2) := by decide +kernel
theorem dX7_personOf_54 : decode cX7_personOf 54 = .ok (.invokestatic 77, 3) := by decide +kernel
theorem dX7_personOf_57 : decode cX7_personOf 57 = .ok (.ifCond .eq 21, 3) := by decide +kernel
theorem dX7_personOf_60 : decode cX7_personOf 60 = .ok (.aload_n 0, 1) := by decide +kernel
theorem dX7_personOf_61 : decode cX7_personOf 61 = .ok (.getfield 22, 3) := by decide +kernel
theorem dX7_personOf_64 : decode cX7_personOf 64 = .ok (.getfield 179, 3) := by decide +kernel
theorem dX7_personOf_67 : decode cX7_personOf 67 = .ok (.iload_n 1, 1) := by decide +kernel
theorem dX7_personOf_68 : decode cX7_personOf 68 = .ok (.aaload, 1) := by decide +kernel
theorem dX7_personOf_69 : decode cX7_personOf 69 = .ok (.getfield 183, 3) := by decide +kernel
theorem dX7_personOf_72 : decode cX7_personOf 72 = .ok (.iload_n 2, 1) := by decide +kernel
theorem dX7_personOf_73 : decode cX7_personOf 73 = .ok (.bipush 10, 2) := by decide +kernel
theorem dX7_personOf_75 : decode cX7_personOf 75 = .ok (.isub, 1) := by decide +kernel
theorem dX7_personOf_76 : decode cX7_personOf 76 = .ok (.iaload, 1) := by decide +kernel
theorem dX7_personOf_77 : decode cX7_personOf 77 = .ok (.ireturn, 1) := by decide +kernel
theorem dX7_personOf_78 : decode cX7_personOf 78 = .ok (.aload_n 0, 1) := by decide +kernel
theorem dX7_personOf_79 : decode cX7_personOf 79 = .ok (.bipush (-5), 2) := by decide +kernel
theorem dX7_personOf_81 : decode cX7_personOf 81 = .ok (.invokevirtual 73, 3) := by decide +kernel
theorem dX7_personOf_84 : decode cX7_personOf 84 = .ok (.ireturn, 1) := by decide +kernel
theorem dX7_wardrobe_0 : decode cX7_wardrobe 0 = .ok (.aload_n 0, 1) := by decide +kernel
theorem dX7_wardrobe_1 : decode cX7_wardrobe 1 = .ok (.iload_n 1, 1) := by decide +kernel
theorem dX7_wardrobe_2 : decode cX7_wardrobe 2 = .ok (.invokevirtual 85, 3) := by decide +kernel
theorem dX7_wardrobe_5 : decode cX7_wardrobe 5 = .ok (.istore_n 2, 1) := by decide +kernel
theorem dX7_wardrobe_6 : decode cX7_wardrobe 6 = .ok (.iload_n 2, 1) := by decide +kernel
theorem dX7_wardrobe_7 : decode cX7_wardrobe 7 = .ok (.ifCond .eq 9, 3) := by decide +kernel
theorem dX7_wardrobe_10 : decode cX7_wardrobe 10 = .ok (.aload_n 0, 1) := by decide +kernel
theorem dX7_wardrobe_11 : decode cX7_wardrobe 11 = .ok (.iload_n 2, 1) := by decide +kernel
theorem dX7_wardrobe_12 : decode cX7_wardrobe 12 = .ok (.invokevirtual 73, 3) := by decide +kernel
theorem dX7_wardrobe_15 : decode cX7_wardrobe 15 = .ok (.ireturn, 1) := by decide +kernel
theorem dX7_wardrobe_16 : decode cX7_wardrobe 16 = .ok (.aload_n 0, 1) := by decide +kernel
theorem dX7_wardrobe_17 : decode cX7_wardrobe 17 = .ok (.getfield 26, 3) := by decide +kernel
theorem dX7_wardrobe_20 : decode cX7_wardrobe 20 = .ok (.aload_n 0, 1) := by decide +kernel
theorem dX7_wardrobe_21 : decode cX7_wardrobe 21 = .ok (.getfield 22, 3) := by decide +kernel
theorem dX7_wardrobe_24 : decode cX7_wardrobe 24 = .ok (.invokevirtual 219, 3) := by decide +kernel
theorem dX7_wardrobe_27 : decode cX7_wardrobe 27 = .ok (.aload_n 0, 1) := by decide +kernel
theorem dX7_wardrobe_28 : decode cX7_wardrobe 28 = .ok (.getfield 42, 3) := by decide +kernel
theorem dX7_wardrobe_31 : decode cX7_wardrobe 31 = .ok (.aload_n 0, 1) := by decide +kernel
theorem dX7_wardrobe_32 : decode cX7_wardrobe 32 = .ok (.getfield 11, 3) := by decide +kernel
theorem dX7_wardrobe_35 : decode cX7_wardrobe 35 = .ok (.iload_n 1, 1) := by decide +kernel
theorem dX7_wardrobe_36 : decode cX7_wardrobe 36 = .ok (.aaload, 1) := by decide +kernel
theorem dX7_wardrobe_37 : decode cX7_wardrobe 37 = .ok (.aload_n 0, 1) := by decide +kernel
theorem dX7_wardrobe_38 : decode cX7_wardrobe 38 = .ok (.getfield 26, 3) := by decide +kernel
theorem dX7_wardrobe_41 : decode cX7_wardrobe 41 = .ok (.invokevirtual 223, 3) := by decide +kernel
theorem dX7_wardrobe_44 : decode cX7_wardrobe 44 = .ok (.istore_n 3, 1) := by decide +kernel
theorem dX7_wardrobe_45 : decode cX7_wardrobe 45 = .ok (.aload_n 0, 1) := by decide +kernel
theorem dX7_wardrobe_46 : decode cX7_wardrobe 46 = .ok (.aload_n 0, 1) := by decide +kernel
theorem dX7_wardrobe_47 : decode cX7_wardrobe 47 = .ok (.getfield 42, 3) := by decide +kernel
theorem dX7_wardrobe_50 : decode cX7_wardrobe 50 = .ok (.getfield 227, 3) := by decide +kernel
theorem dX7_wardrobe_53 : decode cX7_wardrobe 53 = .ok (.putfield 64, 3) := by decide +kernel
theorem dX7_wardrobe_56 : decode cX7_wardrobe 56 = .ok (.aload_n 0, 1) := by decide +kernel
theorem dX7_wardrobe_57 : decode cX7_wardrobe 57 = .ok (.getfield 64, 3) := by decide +kernel
theorem dX7_wardrobe_60 : decode cX7_wardrobe 60 = .ok (.iconst (-1), 1) := by decide +kernel
theorem dX7_wardrobe_61 : decode cX7_wardrobe 61 = .ok (.if_icmp .eq 10, 3) := by decide +kernel
theorem dX7_wardrobe_64 : decode cX7_wardrobe 64 = .ok (.aload_n 0, 1) := by decide +kernel
theorem dX7_wardrobe_65 : decode cX7_wardrobe 65 = .ok (.bipush (-6), 2) := by decide +kernel
theorem dX7_wardrobe_67 : decode cX7_wardrobe 67 = .ok (.invokevirtual 73, 3) := by decide +kernel
theorem dX7_wardrobe_70 : decode cX7_wardrobe 70 = .ok (.ireturn, 1) := by decide +kernel
theorem dX7_wardrobe_71 : decode cX7_wardrobe 71 = .ok (.aload_n 0, 1) := by decide +kernel
theorem dX7_wardrobe_72 : decode cX7_wardrobe 72 = .ok (.getfield 22, 3) := by decide +kernel
theorem dX7_wardrobe_75 : decode cX7_wardrobe 75 = .ok (.aload_n 0, 1) := by decide +kernel
theorem dX7_wardrobe_76 : decode cX7_wardrobe 76 = .ok (.getfield 26, 3) := by decide +kernel
theorem dX7_wardrobe_79 : decode cX7_wardrobe 79 = .ok (.invokevirtual 219, 3) := by decide +kernel
theorem dX7_wardrobe_82 : decode cX7_wardrobe 82 = .ok (.iload_n 3, 1) := by decide +kernel
theorem dX7_wardrobe_83 : decode cX7_wardrobe 83 = .ok (.ireturn, 1) := by decide +kernel
theorem dX7_fault_0 : decode cX7_fault 0 = .ok (.aload_n 0, 1) := by decide +kernel
theorem dX7_fault_1 : decode cX7_fault 1 = .ok (.getfield 64, 3) := by decide +kernel
theorem dX7_fault_4 : decode cX7_fault 4 = .ok (.ireturn, 1) := by decide +kernel
theorem dX7_does_0 : decode cX7_does 0 = .ok (.aload_n 0, 1) := by decide +kernel
theorem dX7_does_1 : decode cX7_does 1 = .ok (.getfield 22, 3) := by decide +kernel
theorem dX7_does_4 : decode cX7_does 4 = .ok (.iload_n 1, 1) := by decide +kernel
theorem dX7_does_5 : decode cX7_does 5 = .ok (.invokevirtual 173, 3) := by decide +kernel
theorem dX7_does_8 : decode cX7_does 8 = .ok (.ifCond .ne 9, 3) := by decide +kernel
theorem dX7_does_11 : decode cX7_does 11 = .ok (.aload_n 0, 1) := by decide +kernel
theorem dX7_does_12 : decode cX7_does 12 = .ok (.iconst (-1), 1) := by decide +kernel
theorem dX7_does_13 : decode cX7_does 13 = .ok (.invokevirtual 73, 3) := by decide +kernel
theorem dX7_does_16 : decode cX7_does 16 = .ok (.ireturn, 1) := by decide +kernel
theorem dX7_does_17 : decode cX7_does 17 = .ok (.iload_n 2, 1) := by decide +kernel
theorem dX7_does_18 : decode cX7_does 18 = .ok (.iload_n 3, 1) := by decide +kernel
theorem dX7_does_19 : decode cX7_does 19 = .ok (.invokestatic 230, 3) := by decide +kernel
theorem dX7_does_22 : decode cX7_does 22 = .ok (.ifCond .ne 10, 3) := by decide +kernel
theorem dX7_does_25 : decode cX7_does 25 = .ok (.aload_n 0, 1) := by decide +kernel
theorem dX7_does_26 : decode cX7_does 26 = .ok (.bipush (-6), 2) := by decide +kernel
theorem dX7_does_28 : decode cX7_does 28 = .ok (.invokevirtual 73, 3) := by decide +kernel
theorem dX7_does_31 : decode cX7_does 31 = .ok (.ireturn, 1) := by decide +kernel
theorem dX7_does_32 : decode cX7_does 32 = .ok (.aload_n 0, 1) := by decide +kernel
theorem dX7_does_33 : decode cX7_does 33 = .ok (.iload_n 2, 1) := by decide +kernel
theorem dX7_does_34 : decode cX7_does 34 = .ok (.iload_n 3, 1) := by decide +kernel
theorem dX7_does_35 : decode cX7_does 35 = .ok (.invokevirtual 233, 3) := by decide +kernel
theorem dX7_does_38 : decode cX7_does 38 = .ok (.aload_n 0, 1) := by decide +kernel
theorem dX7_does_39 : decode cX7_does 39 = .ok (.getfield 26, 3) := by decide +kernel
theorem dX7_does_42 : decode cX7_does 42 = .ok (.iload_n 1, 1) := by decide +kernel
theorem dX7_does_43 : decode cX7_does 43 = .ok (.iload_n 3, 1) := by decide +kernel
theorem dX7_does_44 : decode cX7_does 44 = .ok (.invokevirtual 236, 3) := by decide +kernel
theorem dX7_does_47 : decode cX7_does 47 = .ok (.ireturn, 1) := by decide +kernel
theorem dX7_goes_0 : decode cX7_goes 0 = .ok (.aload_n 0, 1) := by decide +kernel
theorem dX7_goes_1 : decode cX7_goes 1 = .ok (.getfield 22, 3) := by decide +kernel
theorem dX7_goes_4 : decode cX7_goes 4 = .ok (.iload_n 1, 1) := by decide +kernel
theorem dX7_goes_5 : decode cX7_goes 5 = .ok (.invokevirtual 121, 3) := by decide +kernel
theorem dX7_goes_8 : decode cX7_goes 8 = .ok (.ifCond .ne 9, 3) := by decide +kernel
theorem dX7_goes_11 : decode cX7_goes 11 = .ok (.aload_n 0, 1) := by decide +kernel
theorem dX7_goes_12 : decode cX7_goes 12 = .ok (.iconst (-1), 1) := by decide +kernel
theorem dX7_goes_13 : decode cX7_goes 13 = .ok (.invokevirtual 73, 3) := by decide +kernel
theorem dX7_goes_16 : decode cX7_goes 16 = .ok (.ireturn, 1) := by decide +kernel
theorem dX7_goes_17 : decode cX7_goes 17 = .ok (.iload_n 2, 1) := by decide +kernel
theorem dX7_goes_18 : decode cX7_goes 18 = .ok (.iload_n 3, 1) := by decide +kernel
theorem dX7_goes_19 : decode cX7_goes 19 = .ok (.invokestatic 230, 3) := by decide +kernel
theorem dX7_goes_22 : decode cX7_goes 22 = .ok (.ifCond .ne 10, 3) := by decide +kernel
theorem dX7_goes_25 : decode cX7_goes 25 = .ok (.aload_n 0, 1) := by decide +kernel
theorem dX7_goes_26 : decode cX7_goes 26 = .ok (.bipush (-6), 2) := by decide +kernel
theorem dX7_goes_28 : decode cX7_goes 28 = .ok (.invokevirtual 73, 3) := by decide +kernel
theorem dX7_goes_31 : decode cX7_goes 31 = .ok (.ireturn, 1) := by decide +kernel
theorem dX7_goes_32 : decode cX7_goes 32 = .ok (.aload_n 0, 1) := by decide +kernel
theorem dX7_goes_33 : decode cX7_goes 33 = .ok (.iload_n 2, 1) := by decide +kernel
theorem dX7_goes_34 : decode cX7_goes 34 = .ok (.iload_n 3, 1) := by decide +kernel
theorem dX7_goes_35 : decode cX7_goes 35 = .ok (.invokevirtual 233, 3) := by decide +kernel
theorem dX7_goes_38 : decode cX7_goes 38 = .ok (.aload_n 0, 1) := by decide +kernel
theorem dX7_goes_39 : decode cX7_goes 39 = .ok (.getfield 26, 3) := by decide +kernel
theorem dX7_goes_42 : decode cX7_goes 42 = .ok (.iload_n 1, 1) := by decide +kernel
theorem dX7_goes_43 : decode cX7_goes 43 = .ok (.iload_n 3, 1) := by decide +kernel
theorem dX7_goes_44 : decode cX7_goes 44 = .ok (.invokevirtual 239, 3) := by decide +kernel
theorem dX7_goes_47 : decode cX7_goes 47 = .ok (.ifCond .eq 20, 3) := by decide +kernel
theorem dX7_goes_50 : decode cX7_goes 50 = .ok (.aload_n 0, 1) := by decide +kernel
theorem dX7_goes_51 : decode cX7_goes 51 = .ok (.getfield 26, 3) := by decide +kernel
theorem dX7_goes_54 : decode cX7_goes 54 = .ok (.getfield 137, 3) := by decide +kernel
theorem dX7_goes_57 : decode cX7_goes 57 = .ok (.iload_n 1, 1) := by decide +kernel
theorem dX7_goes_58 : decode cX7_goes 58 = .ok (.aaload, 1) := by decide +kernel
theorem dX7_goes_59 : decode cX7_goes 59 = .ok (.getfield 188, 3) := by decide +kernel
theorem dX7_goes_62 : decode cX7_goes 62 = .ok (.iload_n 3, 1) := by decide +kernel
theorem dX7_goes_63 : decode cX7_goes 63 = .ok (.iaload, 1) := by decide +kernel
theorem dX7_goes_64 : decode cX7_goes 64 = .ok (.goto 4, 3) := by decide +kernel
theorem dX7_goes_67 : decode cX7_goes 67 = .ok (.iconst 0, 1) := by decide +kernel
theorem dX7_goes_68 : decode cX7_goes 68 = .ok (.ireturn, 1) := by decide +kernel
theorem dX7_behind_0 : decode cX7_behind 0 = .ok (.aload_n 0, 1) := by decide +kernel
theorem dX7_behind_1 : decode cX7_behind 1 = .ok (.getfield 22, 3) := by decide +kernel
theorem dX7_behind_4 : decode cX7_behind 4 = .ok (.iload_n 1, 1) := by decide +kernel
theorem dX7_behind_5 : decode cX7_behind 5 = .ok (.invokevirtual 121, 3) := by decide +kernel
theorem dX7_behind_8 : decode cX7_behind 8 = .ok (.ifCond .ne 9, 3) := by decide +kernel
theorem dX7_behind_11 : decode cX7_behind 11 = .ok (.aload_n 0, 1) := by decide +kernel
theorem dX7_behind_12 : decode cX7_behind 12 = .ok (.iconst (-1), 1) := by decide +kernel
theorem dX7_behind_13 : decode cX7_behind 13 = .ok (.invokevirtual 73, 3) := by decide +kernel
theorem dX7_behind_16 : decode cX7_behind 16 = .ok (.ireturn, 1) := by decide +kernel
theorem dX7_behind_17 : decode cX7_behind 17 = .ok (.iload 4, 2) := by decide +kernel
theorem dX7_behind_19 : decode cX7_behind 19 = .ok (.iconst 0, 1) := by decide +kernel
theorem dX7_behind_20 : decode cX7_behind 20 = .ok (.iconst 1, 1) := by decide +kernel
theorem dX7_behind_21 : decode cX7_behind 21 = .ok (.invokestatic 77, 3) := by decide +kernel
theorem dX7_behind_24 : decode cX7_behind 24 = .ok (.ifCond .ne 10, 3) := by decide +kernel
theorem dX7_behind_27 : decode cX7_behind 27 = .ok (.aload_n 0, 1) := by decide +kernel
theorem dX7_behind_28 : decode cX7_behind 28 = .ok (.bipush (-5), 2) := by decide +kernel
theorem dX7_behind_30 : decode cX7_behind 30 = .ok (.invokevirtual 73, 3) := by decide +kernel
theorem dX7_behind_33 : decode cX7_behind 33 = .ok (.ireturn, 1) := by decide +kernel
theorem dX7_behind_34 : decode cX7_behind 34 = .ok (.iload_n 2, 1) := by decide +kernel
theorem dX7_behind_35 : decode cX7_behind 35 = .ok (.iload_n 3, 1) := by decide +kernel
theorem dX7_behind_36 : decode cX7_behind 36 = .ok (.invokestatic 230, 3) := by decide +kernel
theorem dX7_behind_39 : decode cX7_behind 39 = .ok (.ifCond .ne 10, 3) := by decide +kernel
theorem dX7_behind_42 : decode cX7_behind 42 = .ok (.aload_n 0, 1) := by decide +kernel
theorem dX7_behind_43 : decode cX7_behind 43 = .ok (.bipush (-6), 2) := by decide +kernel
theorem dX7_behind_45 : decode cX7_behind 45 = .ok (.invokevirtual 73, 3) := by decide +kernel
theorem dX7_behind_48 : decode cX7_behind 48 = .ok (.ireturn, 1) := by decide +kernel
theorem dX7_behind_49 : decode cX7_behind 49 = .ok (.aload_n 0, 1) := by decide +kernel
theorem dX7_behind_50 : decode cX7_behind 50 = .ok (.iload_n 2, 1) := by decide +kernel
theorem dX7_behind_51 : decode cX7_behind 51 = .ok (.iload_n 3, 1) := by decide +kernel
theorem dX7_behind_52 : decode cX7_behind 52 = .ok (.invokevirtual 233, 3) := by decide +kernel
theorem dX7_behind_55 : decode cX7_behind 55 = .ok (.aload_n 0, 1) := by decide +kernel
theorem dX7_behind_56 : decode cX7_behind 56 = .ok (.getfield 26, 3) := by decide +kernel
theorem dX7_behind_59 : decode cX7_behind 59 = .ok (.getfield 137, 3) := by decide +kernel
theorem dX7_behind_62 : decode cX7_behind 62 = .ok (.iload_n 1, 1) := by decide +kernel
theorem dX7_behind_63 : decode cX7_behind 63 = .ok (.aaload, 1) := by decide +kernel
theorem dX7_behind_64 : decode cX7_behind 64 = .ok (.astore 5, 2) := by decide +kernel
theorem dX7_behind_66 : decode cX7_behind 66 = .ok (.iload 4, 2) := by decide +kernel
theorem dX7_behind_68 : decode cX7_behind 68 = .ok (.ifCond .ne 13, 3) := by decide +kernel
theorem dX7_behind_71 : decode cX7_behind 71 = .ok (.aload 5, 2) := by decide +kernel
theorem dX7_behind_73 : decode cX7_behind 73 = .ok (.getfield 188, 3) := by decide +kernel
theorem dX7_behind_76 : decode cX7_behind 76 = .ok (.iload_n 3, 1) := by decide +kernel
theorem dX7_behind_77 : decode cX7_behind 77 = .ok (.iaload, 1) := by decide +kernel
theorem dX7_behind_78 : decode cX7_behind 78 = .ok (.goto 10, 3) := by decide +kernel
theorem dX7_behind_81 : decode cX7_behind 81 = .ok (.aload 5, 2) := by decide +kernel
theorem dX7_behind_83 : decode cX7_behind 83 = .ok (.getfield 210, 3) := by decide +kernel
theorem dX7_behind_86 : decode cX7_behind 86 = .ok (.iload_n 3, 1) := by decide +kernel
theorem dX7_behind_87 : decode cX7_behind 87 = .ok (.iaload, 1) := by decide +kernel
theorem dX7_behind_88 : decode cX7_behind 88 = .ok (.ireturn, 1) := by decide +kernel
theorem dX7_settled_0 : decode cX7_settled 0 = .ok (.aload_n 0, 1) := by decide +kernel
theorem dX7_settled_1 : decode cX7_settled 1 = .ok (.getfield 26, 3) := by decide +kernel
theorem dX7_settled_4 : decode cX7_settled 4 = .ok (.aload_n 0, 1) := by decide +kernel
theorem dX7_settled_5 : decode cX7_settled 5 = .ok (.getfield 22, 3) := by decide +kernel
theorem dX7_settled_8 : decode cX7_settled 8 = .ok (.invokevirtual 219, 3) := by decide +kernel
theorem dX7_settled_11 : decode cX7_settled 11 = .ok (.iconst 0, 1) := by decide +kernel
theorem dX7_settled_12 : decode cX7_settled 12 = .ok (.istore_n 1, 1) := by decide +kernel
theorem dX7_settled_13 : decode cX7_settled 13 = .ok (.iconst 0, 1) := by decide +kernel
theorem dX7_settled_14 : decode cX7_settled 14 = .ok (.istore_n 2, 1) := by decide +kernel
theorem dX7_settled_15 : decode cX7_settled 15 = .ok (.iload_n 2, 1) := by decide +kernel
theorem dX7_settled_16 : decode cX7_settled 16 = .ok (.bipush 12, 2) := by decide +kernel
theorem dX7_settled_18 : decode cX7_settled 18 = .ok (.if_icmp .ge 31, 3) := by decide +kernel
theorem dX7_settled_21 : decode cX7_settled 21 = .ok (.aload_n 0, 1) := by decide +kernel
theorem dX7_settled_22 : decode cX7_settled 22 = .ok (.getfield 26, 3) := by decide +kernel
theorem dX7_settled_25 : decode cX7_settled 25 = .ok (.iload_n 2, 1) := by decide +kernel
theorem dX7_settled_26 : decode cX7_settled 26 = .ok (.invokevirtual 242, 3) := by decide +kernel
theorem dX7_settled_29 : decode cX7_settled 29 = .ok (.istore_n 3, 1) := by decide +kernel
theorem dX7_settled_30 : decode cX7_settled 30 = .ok (.iload_n 3, 1) := by decide +kernel
theorem dX7_settled_31 : decode cX7_settled 31 = .ok (.iconst (-1), 1) := by decide +kernel
theorem dX7_settled_32 : decode cX7_settled 32 = .ok (.if_icmp .ne 5, 3) := by decide +kernel
theorem dX7_settled_35 : decode cX7_settled 35 = .ok (.iconst (-1), 1) := by decide +kernel
theorem dX7_settled_36 : decode cX7_settled 36 = .ok (.ireturn, 1) := by decide +kernel
theorem dX7_settled_37 : decode cX7_settled 37 = .ok (.iload_n 1, 1) := by decide +kernel
theorem dX7_settled_38 : decode cX7_settled 38 = .ok (.iload_n 3, 1) := by decide +kernel
theorem dX7_settled_39 : decode cX7_settled 39 = .ok (.invokestatic 245, 3) := by decide +kernel
theorem dX7_settled_42 : decode cX7_settled 42 = .ok (.istore_n 1, 1) := by decide +kernel
theorem dX7_settled_43 : decode cX7_settled 43 = .ok (.iinc 2 1, 3) := by decide +kernel
theorem dX7_settled_46 : decode cX7_settled 46 = .ok (.goto (-31), 3) := by decide +kernel
theorem dX7_settled_49 : decode cX7_settled 49 = .ok (.iload_n 1, 1) := by decide +kernel
theorem dX7_settled_50 : decode cX7_settled 50 = .ok (.ireturn, 1) := by decide +kernel
theorem dX7_tryDays_0 : decode cX7_tryDays 0 = .ok (.aload_n 0, 1) := by decide +kernel
theorem dX7_tryDays_1 : decode cX7_tryDays 1 = .ok (.getfield 26, 3) := by decide +kernel
theorem dX7_tryDays_4 : decode cX7_tryDays 4 = .ok (.aload_n 0, 1) := by decide +kernel
theorem dX7_tryDays_5 : decode cX7_tryDays 5 = .ok (.getfield 22, 3) := by decide +kernel
theorem dX7_tryDays_8 : decode cX7_tryDays 8 = .ok (.invokevirtual 219, 3) := by decide +kernel
theorem dX7_tryDays_11 : decode cX7_tryDays 11 = .ok (.iconst 1, 1) := by decide +kernel
theorem dX7_tryDays_12 : decode cX7_tryDays 12 = .ok (.istore_n 3, 1) := by decide +kernel
theorem dX7_tryDays_13 : decode cX7_tryDays 13 = .ok (.iconst 0, 1) := by decide +kernel
theorem dX7_tryDays_14 : decode cX7_tryDays 14 = .ok (.istore 4, 2) := by decide +kernel
theorem dX7_tryDays_16 : decode cX7_tryDays 16 = .ok (.iload 4, 2) := by decide +kernel
theorem dX7_tryDays_18 : decode cX7_tryDays 18 = .ok (.iload_n 1, 1) := by decide +kernel
theorem dX7_tryDays_19 : decode cX7_tryDays 19 = .ok (.if_icmp .ge 22, 3) := by decide +kernel
theorem dX7_tryDays_22 : decode cX7_tryDays 22 = .ok (.iload_n 3, 1) := by decide +kernel
theorem dX7_tryDays_23 : decode cX7_tryDays 23 = .ok (.ifCond .eq 18, 3) := by decide +kernel
theorem dX7_tryDays_26 : decode cX7_tryDays 26 = .ok (.aload_n 0, 1) := by decide +kernel
theorem dX7_tryDays_27 : decode cX7_tryDays 27 = .ok (.getfield 26, 3) := by decide +kernel
theorem dX7_tryDays_30 : decode cX7_tryDays 30 = .ok (.iload_n 2, 1) := by decide +kernel
theorem dX7_tryDays_31 : decode cX7_tryDays 31 = .ok (.invokevirtual 250, 3) := by decide +kernel
theorem dX7_tryDays_34 : decode cX7_tryDays 34 = .ok (.istore_n 3, 1) := by decide +kernel
theorem dX7_tryDays_35 : decode cX7_tryDays 35 = .ok (.iinc 4 1, 3) := by decide +kernel
theorem dX7_tryDays_38 : decode cX7_tryDays 38 = .ok (.goto (-22), 3) := by decide +kernel
theorem dX7_tryDays_41 : decode cX7_tryDays 41 = .ok (.return_, 1) := by decide +kernel
theorem dX7_wins_0 : decode cX7_wins 0 = .ok (.aload_n 0, 1) := by decide +kernel
theorem dX7_wins_1 : decode cX7_wins 1 = .ok (.getfield 22, 3) := by decide +kernel
theorem dX7_wins_4 : decode cX7_wins 4 = .ok (.iload_n 1, 1) := by decide +kernel
theorem dX7_wins_5 : decode cX7_wins 5 = .ok (.invokevirtual 173, 3) := by decide +kernel
theorem dX7_wins_8 : decode cX7_wins 8 = .ok (.ifCond .ne 9, 3) := by decide +kernel
theorem dX7_wins_11 : decode cX7_wins 11 = .ok (.aload_n 0, 1) := by decide +kernel
theorem dX7_wins_12 : decode cX7_wins 12 = .ok (.iconst (-1), 1) := by decide +kernel
theorem dX7_wins_13 : decode cX7_wins 13 = .ok (.invokevirtual 73, 3) := by decide +kernel
theorem dX7_wins_16 : decode cX7_wins 16 = .ok (.ireturn, 1) := by decide +kernel
theorem dX7_wins_17 : decode cX7_wins 17 = .ok (.iconst 0, 1) := by decide +kernel
theorem dX7_wins_18 : decode cX7_wins 18 = .ok (.istore_n 2, 1) := by decide +kernel
theorem dX7_wins_19 : decode cX7_wins 19 = .ok (.iconst 0, 1) := by decide +kernel
theorem dX7_wins_20 : decode cX7_wins 20 = .ok (.istore_n 3, 1) := by decide +kernel
theorem dX7_wins_21 : decode cX7_wins 21 = .ok (.iload_n 3, 1) := by decide +kernel
theorem dX7_wins_22 : decode cX7_wins 22 = .ok (.bipush 12, 2) := by decide +kernel
theorem dX7_wins_24 : decode cX7_wins 24 = .ok (.if_icmp .ge 38, 3) := by decide +kernel
theorem dX7_wins_27 : decode cX7_wins 27 = .ok (.aload_n 0, 1) := by decide +kernel
theorem dX7_wins_28 : decode cX7_wins 28 = .ok (.getfield 22, 3) := by decide +kernel
theorem dX7_wins_31 : decode cX7_wins 31 = .ok (.iload_n 1, 1) := by decide +kernel
theorem dX7_wins_32 : decode cX7_wins 32 = .ok (.iload_n 3, 1) := by decide +kernel
theorem dX7_wins_33 : decode cX7_wins 33 = .ok (.invokevirtual 236, 3) := by decide +kernel
theorem dX7_wins_36 : decode cX7_wins 36 = .ok (.aload_n 0, 1) := by decide +kernel
theorem dX7_wins_37 : decode cX7_wins 37 = .ok (.getfield 22, 3) := by decide +kernel
theorem dX7_wins_40 : decode cX7_wins 40 = .ok (.getfield 179, 3) := by decide +kernel
theorem dX7_wins_43 : decode cX7_wins 43 = .ok (.iload_n 1, 1) := by decide +kernel
theorem dX7_wins_44 : decode cX7_wins 44 = .ok (.aaload, 1) := by decide +kernel
theorem dX7_wins_45 : decode cX7_wins 45 = .ok (.getfield 183, 3) := by decide +kernel
theorem dX7_wins_48 : decode cX7_wins 48 = .ok (.iload_n 3, 1) := by decide +kernel
theorem dX7_wins_49 : decode cX7_wins 49 = .ok (.iaload, 1) := by decide +kernel
theorem dX7_wins_50 : decode cX7_wins 50 = .ok (.if_icmp .eq 6, 3) := by decide +kernel
theorem dX7_wins_53 : decode cX7_wins 53 = .ok (.iinc 2 1, 3) := by decide +kernel
theorem dX7_wins_56 : decode cX7_wins 56 = .ok (.iinc 3 1, 3) := by decide +kernel
theorem dX7_wins_59 : decode cX7_wins 59 = .ok (.goto (-38), 3) := by decide +kernel
theorem dX7_wins_62 : decode cX7_wins 62 = .ok (.iload_n 2, 1) := by decide +kernel
theorem dX7_wins_63 : decode cX7_wins 63 = .ok (.ireturn, 1) := by decide +kernel
theorem dX7_like_0 : decode cX7_like 0 = .ok (.aload_n 0, 1) := by decide +kernel
theorem dX7_like_1 : decode cX7_like 1 = .ok (.getfield 22, 3) := by decide +kernel
theorem dX7_like_4 : decode cX7_like 4 = .ok (.iload_n 1, 1) := by decide +kernel
theorem dX7_like_5 : decode cX7_like 5 = .ok (.invokevirtual 121, 3) := by decide +kernel
theorem dX7_like_8 : decode cX7_like 8 = .ok (.ifCond .eq 14, 3) := by decide +kernel
theorem dX7_like_11 : decode cX7_like 11 = .ok (.aload_n 0, 1) := by decide +kernel
theorem dX7_like_12 : decode cX7_like 12 = .ok (.getfield 22, 3) := by decide +kernel
theorem dX7_like_15 : decode cX7_like 15 = .ok (.iload_n 2, 1) := by decide +kernel
theorem dX7_like_16 : decode cX7_like 16 = .ok (.invokevirtual 173, 3) := by decide +kernel
theorem dX7_like_19 : decode cX7_like 19 = .ok (.ifCond .ne 9, 3) := by decide +kernel
theorem dX7_like_22 : decode cX7_like 22 = .ok (.aload_n 0, 1) := by decide +kernel
theorem dX7_like_23 : decode cX7_like 23 = .ok (.iconst (-1), 1) := by decide +kernel
theorem dX7_like_24 : decode cX7_like 24 = .ok (.invokevirtual 73, 3) := by decide +kernel
theorem dX7_like_27 : decode cX7_like 27 = .ok (.ireturn, 1) := by decide +kernel
theorem dX7_like_28 : decode cX7_like 28 = .ok (.aload_n 0, 1) := by decide +kernel
theorem dX7_like_29 : decode cX7_like 29 = .ok (.getfield 22, 3) := by decide +kernel
theorem dX7_like_32 : decode cX7_like 32 = .ok (.iload_n 1, 1) := by decide +kernel
theorem dX7_like_33 : decode cX7_like 33 = .ok (.iload_n 2, 1) := by decide +kernel
theorem dX7_like_34 : decode cX7_like 34 = .ok (.invokevirtual 253, 3) := by decide +kernel
theorem dX7_like_37 : decode cX7_like 37 = .ok (.ireturn, 1) := by decide +kernel
theorem dX7_whose_0 : decode cX7_whose 0 = .ok (.aload_n 0, 1) := by decide +kernel
theorem dX7_whose_1 : decode cX7_whose 1 = .ok (.getfield 22, 3) := by decide +kernel
theorem dX7_whose_4 : decode cX7_whose 4 = .ok (.iload_n 1, 1) := by decide +kernel
theorem dX7_whose_5 : decode cX7_whose 5 = .ok (.invokevirtual 121, 3) := by decide +kernel
theorem dX7_whose_8 : decode cX7_whose 8 = .ok (.ifCond .eq 14, 3) := by decide +kernel
theorem dX7_whose_11 : decode cX7_whose 11 = .ok (.aload_n 0, 1) := by decide +kernel
theorem dX7_whose_12 : decode cX7_whose 12 = .ok (.getfield 22, 3) := by decide +kernel
theorem dX7_whose_15 : decode cX7_whose 15 = .ok (.iload_n 1, 1) := by decide +kernel
theorem dX7_whose_16 : decode cX7_whose 16 = .ok (.invokevirtual 256, 3) := by decide +kernel
theorem dX7_whose_19 : decode cX7_whose 19 = .ok (.goto 8, 3) := by decide +kernel
theorem dX7_whose_22 : decode cX7_whose 22 = .ok (.aload_n 0, 1) := by decide +kernel
theorem dX7_whose_23 : decode cX7_whose 23 = .ok (.iconst (-1), 1) := by decide +kernel
theorem dX7_whose_24 : decode cX7_whose 24 = .ok (.invokevirtual 195, 3) := by decide +kernel
theorem dX7_whose_27 : decode cX7_whose 27 = .ok (.ireturn, 1) := by decide +kernel
theorem dX7_fits_0 : decode cX7_fits 0 = .ok (.aload_n 0, 1) := by decide +kernel
theorem dX7_fits_1 : decode cX7_fits 1 = .ok (.iload_n 1, 1) := by decide +kernel
theorem dX7_fits_2 : decode cX7_fits 2 = .ok (.invokevirtual 259, 3) := by decide +kernel
theorem dX7_fits_5 : decode cX7_fits 5 = .ok (.istore_n 2, 1) := by decide +kernel
theorem dX7_fits_6 : decode cX7_fits 6 = .ok (.iload_n 2, 1) := by decide +kernel
theorem dX7_fits_7 : decode cX7_fits 7 = .ok (.ifCond .eq 9, 3) := by decide +kernel
theorem dX7_fits_10 : decode cX7_fits 10 = .ok (.aload_n 0, 1) := by decide +kernel
theorem dX7_fits_11 : decode cX7_fits 11 = .ok (.iload_n 2, 1) := by decide +kernel
theorem dX7_fits_12 : decode cX7_fits 12 = .ok (.invokevirtual 73, 3) := by decide +kernel
theorem dX7_fits_15 : decode cX7_fits 15 = .ok (.ireturn, 1) := by decide +kernel
theorem dX7_fits_16 : decode cX7_fits 16 = .ok (.iconst 0, 1) := by decide +kernel
theorem dX7_fits_17 : decode cX7_fits 17 = .ok (.istore_n 3, 1) := by decide +kernel
theorem dX7_fits_18 : decode cX7_fits 18 = .ok (.iconst 0, 1) := by decide +kernel
theorem dX7_fits_19 : decode cX7_fits 19 = .ok (.istore 4, 2) := by decide +kernel
theorem dX7_fits_21 : decode cX7_fits 21 = .ok (.iload 4, 2) := by decide +kernel
theorem dX7_fits_23 : decode cX7_fits 23 = .ok (.aload_n 0, 1) := by decide +kernel
theorem dX7_fits_24 : decode cX7_fits 24 = .ok (.getfield 22, 3) := by decide +kernel
theorem dX7_fits_27 : decode cX7_fits 27 = .ok (.getfield 262, 3) := by decide +kernel
theorem dX7_fits_30 : decode cX7_fits 30 = .ok (.if_icmp .ge 31, 3) := by decide +kernel
theorem dX7_fits_33 : decode cX7_fits 33 = .ok (.aload_n 0, 1) := by decide +kernel
theorem dX7_fits_34 : decode cX7_fits 34 = .ok (.iload 4, 2) := by decide +kernel
theorem dX7_fits_36 : decode cX7_fits 36 = .ok (.aload_n 0, 1) := by decide +kernel
theorem dX7_fits_37 : decode cX7_fits 37 = .ok (.getfield 11, 3) := by decide +kernel
theorem dX7_fits_40 : decode cX7_fits 40 = .ok (.iload_n 1, 1) := by decide +kernel
theorem dX7_fits_41 : decode cX7_fits 41 = .ok (.aaload, 1) := by decide +kernel
theorem dX7_fits_42 : decode cX7_fits 42 = .ok (.invokevirtual 265, 3) := by decide +kernel
theorem dX7_fits_45 : decode cX7_fits 45 = .ok (.ifCond .eq 10, 3) := by decide +kernel
theorem dX7_fits_48 : decode cX7_fits 48 = .ok (.iload_n 3, 1) := by decide +kernel
theorem dX7_fits_49 : decode cX7_fits 49 = .ok (.iconst 1, 1) := by decide +kernel
theorem dX7_fits_50 : decode cX7_fits 50 = .ok (.iload 4, 2) := by decide +kernel
theorem dX7_fits_52 : decode cX7_fits 52 = .ok (.ishl, 1) := by decide +kernel
theorem dX7_fits_53 : decode cX7_fits 53 = .ok (.ior, 1) := by decide +kernel
theorem dX7_fits_54 : decode cX7_fits 54 = .ok (.istore_n 3, 1) := by decide +kernel
theorem dX7_fits_55 : decode cX7_fits 55 = .ok (.iinc 4 1, 3) := by decide +kernel
theorem dX7_fits_58 : decode cX7_fits 58 = .ok (.goto (-37), 3) := by decide +kernel
theorem dX7_fits_61 : decode cX7_fits 61 = .ok (.iload_n 3, 1) := by decide +kernel
theorem dX7_fits_62 : decode cX7_fits 62 = .ok (.ireturn, 1) := by decide +kernel
theorem dX7_isFitting_0 : decode cX7_isFitting 0 = .ok (.iconst 0, 1) := by decide +kernel
theorem dX7_isFitting_1 : decode cX7_isFitting 1 = .ok (.istore_n 3, 1) := by decide +kernel
theorem dX7_isFitting_2 : decode cX7_isFitting 2 = .ok (.iload_n 3, 1) := by decide +kernel
theorem dX7_isFitting_3 : decode cX7_isFitting 3 = .ok (.bipush 12, 2) := by decide +kernel
theorem dX7_isFitting_5 : decode cX7_isFitting 5 = .ok (.if_icmp .ge 38, 3) := by decide +kernel
theorem dX7_isFitting_8 : decode cX7_isFitting 8 = .ok (.aload_n 2, 1) := by decide +kernel
theorem dX7_isFitting_9 : decode cX7_isFitting 9 = .ok (.iload_n 3, 1) := by decide +kernel
theorem dX7_isFitting_10 : decode cX7_isFitting 10 = .ok (.invokevirtual 269, 3) := by decide +kernel
theorem dX7_isFitting_13 : decode cX7_isFitting 13 = .ok (.istore 4, 2) := by decide +kernel
theorem dX7_isFitting_15 : decode cX7_isFitting 15 = .ok (.iload 4, 2) := by decide +kernel
theorem dX7_isFitting_17 : decode cX7_isFitting 17 = .ok (.iconst (-1), 1) := by decide +kernel
theorem dX7_isFitting_18 : decode cX7_isFitting 18 = .ok (.if_icmp .eq 19, 3) := by decide +kernel
theorem dX7_isFitting_21 : decode cX7_isFitting 21 = .ok (.iload 4, 2) := by decide +kernel
theorem dX7_isFitting_23 : decode cX7_isFitting 23 = .ok (.aload_n 0, 1) := by decide +kernel
theorem dX7_isFitting_24 : decode cX7_isFitting 24 = .ok (.getfield 22, 3) := by decide +kernel
theorem dX7_isFitting_27 : decode cX7_isFitting 27 = .ok (.iload_n 1, 1) := by decide +kernel
theorem dX7_isFitting_28 : decode cX7_isFitting 28 = .ok (.iload_n 3, 1) := by decide +kernel
theorem dX7_isFitting_29 : decode cX7_isFitting 29 = .ok (.invokevirtual 236, 3) := by decide +kernel
theorem dX7_isFitting_32 : decode cX7_isFitting 32 = .ok (.if_icmp .eq 5, 3) := by decide +kernel
theorem dX7_isFitting_35 : decode cX7_isFitting 35 = .ok (.iconst 0, 1) := by decide +kernel
theorem dX7_isFitting_36 : decode cX7_isFitting 36 = .ok (.ireturn, 1) := by decide +kernel
theorem dX7_isFitting_37 : decode cX7_isFitting 37 = .ok (.iinc 3 1, 3) := by decide +kernel
theorem dX7_isFitting_40 : decode cX7_isFitting 40 = .ok (.goto (-38), 3) := by decide +kernel
theorem dX7_isFitting_43 : decode cX7_isFitting 43 = .ok (.iconst 1, 1) := by decide +kernel
theorem dX7_isFitting_44 : decode cX7_isFitting 44 = .ok (.ireturn, 1) := by decide +kernel
theorem dX7_watch_0 : decode cX7_watch 0 = .ok (.aload_n 0, 1) := by decide +kernel
theorem dX7_watch_1 : decode cX7_watch 1 = .ok (.getfield 22, 3) := by decide +kernel
theorem dX7_watch_4 : decode cX7_watch 4 = .ok (.getfield 262, 3) := by decide +kernel
theorem dX7_watch_7 : decode cX7_watch 7 = .ok (.ifCond .ne 10, 3) := by decide +kernel
theorem dX7_watch_10 : decode cX7_watch 10 = .ok (.aload_n 0, 1) := by decide +kernel
theorem dX7_watch_11 : decode cX7_watch 11 = .ok (.bipush (-5), 2) := by decide +kernel
theorem dX7_watch_13 : decode cX7_watch 13 = .ok (.invokevirtual 73, 3) := by decide +kernel
theorem dX7_watch_16 : decode cX7_watch 16 = .ok (.ireturn, 1) := by decide +kernel
theorem dX7_watch_17 : decode cX7_watch 17 = .ok (.iconst 0, 1) := by decide +kernel
theorem dX7_watch_18 : decode cX7_watch 18 = .ok (.istore_n 1, 1) := by decide +kernel
theorem dX7_watch_19 : decode cX7_watch 19 = .ok (.iconst 0, 1) := by decide +kernel
theorem dX7_watch_20 : decode cX7_watch 20 = .ok (.istore_n 2, 1) := by decide +kernel
theorem dX7_watch_21 : decode cX7_watch 21 = .ok (.iconst 0, 1) := by decide +kernel
theorem dX7_watch_22 : decode cX7_watch 22 = .ok (.istore_n 3, 1) := by decide +kernel
theorem dX7_watch_23 : decode cX7_watch 23 = .ok (.iload_n 3, 1) := by decide +kernel
theorem dX7_watch_24 : decode cX7_watch 24 = .ok (.bipush 12, 2) := by decide +kernel
theorem dX7_watch_26 : decode cX7_watch 26 = .ok (.if_icmp .ge 30, 3) := by decide +kernel
theorem dX7_watch_29 : decode cX7_watch 29 = .ok (.aload_n 0, 1) := by decide +kernel
theorem dX7_watch_30 : decode cX7_watch 30 = .ok (.getfield 22, 3) := by decide +kernel
theorem dX7_watch_33 : decode cX7_watch 33 = .ok (.iload_n 3, 1) := by decide +kernel
theorem dX7_watch_34 : decode cX7_watch 34 = .ok (.invokevirtual 272, 3) := by decide +kernel
theorem dX7_watch_37 : decode cX7_watch 37 = .ok (.istore 4, 2) := by decide +kernel
theorem dX7_watch_39 : decode cX7_watch 39 = .ok (.iload 4, 2) := by decide +kernel
theorem dX7_watch_41 : decode cX7_watch 41 = .ok (.iload_n 2, 1) := by decide +kernel
theorem dX7_watch_42 : decode cX7_watch 42 = .ok (.if_icmp .le 8, 3) := by decide +kernel
theorem dX7_watch_45 : decode cX7_watch 45 = .ok (.iload 4, 2) := by decide +kernel
theorem dX7_watch_47 : decode cX7_watch 47 = .ok (.istore_n 2, 1) := by decide +kernel
theorem dX7_watch_48 : decode cX7_watch 48 = .ok (.iload_n 3, 1) := by decide +kernel
theorem dX7_watch_49 : decode cX7_watch 49 = .ok (.istore_n 1, 1) := by decide +kernel
theorem dX7_watch_50 : decode cX7_watch 50 = .ok (.iinc 3 1, 3) := by decide +kernel
theorem dX7_watch_53 : decode cX7_watch 53 = .ok (.goto (-30), 3) := by decide +kernel
theorem dX7_watch_56 : decode cX7_watch 56 = .ok (.iload_n 1, 1) := by decide +kernel
theorem dX7_watch_57 : decode cX7_watch 57 = .ok (.ireturn, 1) := by decide +kernel
theorem dX7_dressed_0 : decode cX7_dressed 0 = .ok (.aload_n 0, 1) := by decide +kernel
theorem dX7_dressed_1 : decode cX7_dressed 1 = .ok (.iload_n 1, 1) := by decide +kernel
theorem dX7_dressed_2 : decode cX7_dressed 2 = .ok (.invokevirtual 85, 3) := by decide +kernel
theorem dX7_dressed_5 : decode cX7_dressed 5 = .ok (.istore 4, 2) := by decide +kernel
theorem dX7_dressed_7 : decode cX7_dressed 7 = .ok (.iload 4, 2) := by decide +kernel
theorem dX7_dressed_9 : decode cX7_dressed 9 = .ok (.ifCond .eq 10, 3) := by decide +kernel
theorem dX7_dressed_12 : decode cX7_dressed 12 = .ok (.aload_n 0, 1) := by decide +kernel
theorem dX7_dressed_13 : decode cX7_dressed 13 = .ok (.iload 4, 2) := by decide +kernel
theorem dX7_dressed_15 : decode cX7_dressed 15 = .ok (.invokevirtual 73, 3) := by decide +kernel
theorem dX7_dressed_18 : decode cX7_dressed 18 = .ok (.ireturn, 1) := by decide +kernel
theorem dX7_dressed_19 : decode cX7_dressed 19 = .ok (.iload_n 2, 1) := by decide +kernel
theorem dX7_dressed_20 : decode cX7_dressed 20 = .ok (.iconst 1, 1) := by decide +kernel
theorem dX7_dressed_21 : decode cX7_dressed 21 = .ok (.iconst 4, 1) := by decide +kernel
theorem dX7_dressed_22 : decode cX7_dressed 22 = .ok (.invokestatic 77, 3) := by decide +kernel
theorem dX7_dressed_25 : decode cX7_dressed 25 = .ok (.ifCond .eq 18, 3) := by decide +kernel
theorem dX7_dressed_28 : decode cX7_dressed 28 = .ok (.iload_n 2, 1) := by decide +kernel
theorem dX7_dressed_29 : decode cX7_dressed 29 = .ok (.aload_n 0, 1) := by decide +kernel
theorem dX7_dressed_30 : decode cX7_dressed 30 = .ok (.getfield 22, 3) := by decide +kernel
theorem dX7_dressed_33 : decode cX7_dressed 33 = .ok (.getfield 275, 3) := by decide +kernel
theorem dX7_dressed_36 : decode cX7_dressed 36 = .ok (.if_icmp .gt 7, 3) := by decide +kernel
theorem dX7_dressed_39 : decode cX7_dressed 39 = .ok (.iconst 1, 1) := by decide +kernel
theorem dX7_dressed_40 : decode cX7_dressed 40 = .ok (.goto 4, 3) := by decide +kernel
theorem dX7_dressed_43 : decode cX7_dressed 43 = .ok (.iconst 0, 1) := by decide +kernel
theorem dX7_dressed_44 : decode cX7_dressed 44 = .ok (.istore 5, 2) := by decide +kernel
theorem dX7_dressed_46 : decode cX7_dressed 46 = .ok (.aload_n 0, 1) := by decide +kernel
theorem dX7_dressed_47 : decode cX7_dressed 47 = .ok (.getfield 11, 3) := by decide +kernel
theorem dX7_dressed_50 : decode cX7_dressed 50 = .ok (.iload_n 1, 1) := by decide +kernel
theorem dX7_dressed_51 : decode cX7_dressed 51 = .ok (.aaload, 1) := by decide +kernel
theorem dX7_dressed_52 : decode cX7_dressed 52 = .ok (.getfield 278, 3) := by decide +kernel
theorem dX7_dressed_55 : decode cX7_dressed 55 = .ok (.bipush 12, 2) := by decide +kernel
theorem dX7_dressed_57 : decode cX7_dressed 57 = .ok (.aload_n 0, 1) := by decide +kernel
theorem dX7_dressed_58 : decode cX7_dressed 58 = .ok (.getfield 22, 3) := by decide +kernel
theorem dX7_dressed_61 : decode cX7_dressed 61 = .ok (.getfield 262, 3) := by decide +kernel
theorem dX7_dressed_64 : decode cX7_dressed 64 = .ok (.imul, 1) := by decide +kernel
theorem dX7_dressed_65 : decode cX7_dressed 65 = .ok (.if_icmp .lt 19, 3) := by decide +kernel
theorem dX7_dressed_68 : decode cX7_dressed 68 = .ok (.iload 5, 2) := by decide +kernel
theorem dX7_dressed_70 : decode cX7_dressed 70 = .ok (.ifCond .eq 21, 3) := by decide +kernel
theorem dX7_dressed_73 : decode cX7_dressed 73 = .ok (.iload_n 3, 1) := by decide +kernel
theorem dX7_dressed_74 : decode cX7_dressed 74 = .ok (.iconst (-1), 1) := by decide +kernel
theorem dX7_dressed_75 : decode cX7_dressed 75 = .ok (.iload_n 2, 1) := by decide +kernel
theorem dX7_dressed_76 : decode cX7_dressed 76 = .ok (.iconst 1, 1) := by decide +kernel
theorem dX7_dressed_77 : decode cX7_dressed 77 = .ok (.isub, 1) := by decide +kernel
theorem dX7_dressed_78 : decode cX7_dressed 78 = .ok (.invokestatic 77, 3) := by decide +kernel
theorem dX7_dressed_81 : decode cX7_dressed 81 = .ok (.ifCond .ne 10, 3) := by decide +kernel
theorem dX7_dressed_84 : decode cX7_dressed 84 = .ok (.aload_n 0, 1) := by decide +kernel
theorem dX7_dressed_85 : decode cX7_dressed 85 = .ok (.bipush (-5), 2) := by decide +kernel
theorem dX7_dressed_87 : decode cX7_dressed 87 = .ok (.invokevirtual 73, 3) := by decide +kernel
theorem dX7_dressed_90 : decode cX7_dressed 90 = .ok (.ireturn, 1) := by decide +kernel
theorem dX7_dressed_91 : decode cX7_dressed 91 = .ok (.iload 5, 2) := by decide +kernel
theorem dX7_dressed_93 : decode cX7_dressed 93 = .ok (.ifCond .ne 10, 3) := by decide +kernel
theorem dX7_dressed_96 : decode cX7_dressed 96 = .ok (.aload_n 0, 1) := by decide +kernel
theorem dX7_dressed_97 : decode cX7_dressed 97 = .ok (.bipush (-6), 2) := by decide +kernel
theorem dX7_dressed_99 : decode cX7_dressed 99 = .ok (.invokevirtual 73, 3) := by decide +kernel
theorem dX7_dressed_102 : decode cX7_dressed 102 = .ok (.ireturn, 1) := by decide +kernel
theorem dX7_dressed_103 : decode cX7_dressed 103 = .ok (.aload_n 0, 1) := by decide +kernel
theorem dX7_dressed_104 : decode cX7_dressed 104 = .ok (.getfield 49, 3) := by decide +kernel
theorem dX7_dressed_107 : decode cX7_dressed 107 = .ok (.aload_n 0, 1) := by decide +kernel
theorem dX7_dressed_108 : decode cX7_dressed 108 = .ok (.getfield 22, 3) := by decide +kernel
theorem dX7_dressed_111 : decode cX7_dressed 111 = .ok (.aload_n 0, 1) := by decide +kernel
theorem dX7_dressed_112 : decode cX7_dressed 112 = .ok (.getfield 11, 3) := by decide +kernel
theorem dX7_dressed_115 : decode cX7_dressed 115 = .ok (.iload_n 1, 1) := by decide +kernel
theorem dX7_dressed_116 : decode cX7_dressed 116 = .ok (.aaload, 1) := by decide +kernel
theorem dX7_dressed_117 : decode cX7_dressed 117 = .ok (.iload_n 2, 1) := by decide +kernel
theorem dX7_dressed_118 : decode cX7_dressed 118 = .ok (.invokevirtual 281, 3) := by decide +kernel
theorem dX7_dressed_121 : decode cX7_dressed 121 = .ok (.iload_n 3, 1) := by decide +kernel
theorem dX7_dressed_122 : decode cX7_dressed 122 = .ok (.iconst (-1), 1) := by decide +kernel
theorem dX7_dressed_123 : decode cX7_dressed 123 = .ok (.if_icmp .ne 13, 3) := by decide +kernel
theorem dX7_dressed_126 : decode cX7_dressed 126 = .ok (.aload_n 0, 1) := by decide +kernel
theorem dX7_dressed_127 : decode cX7_dressed 127 = .ok (.getfield 49, 3) := by decide +kernel
theorem dX7_dressed_130 : decode cX7_dressed 130 = .ok (.getfield 285, 3) := by decide +kernel
theorem dX7_dressed_133 : decode cX7_dressed 133 = .ok (.goto 12, 3) := by decide +kernel
theorem dX7_dressed_136 : decode cX7_dressed 136 = .ok (.aload_n 0, 1) := by decide +kernel
theorem dX7_dressed_137 : decode cX7_dressed 137 = .ok (.getfield 49, 3) := by decide +kernel
theorem dX7_dressed_140 : decode cX7_dressed 140 = .ok (.getfield 288, 3) := by decide +kernel
theorem dX7_dressed_143 : decode cX7_dressed 143 = .ok (.iload_n 3, 1) := by decide +kernel
theorem dX7_dressed_144 : decode cX7_dressed 144 = .ok (.iaload, 1) := by decide +kernel
theorem dX7_dressed_145 : decode cX7_dressed 145 = .ok (.ireturn, 1) := by decide +kernel
theorem dX7_washed_0 : decode cX7_washed 0 = .ok (.aload_n 0, 1) := by decide +kernel
theorem dX7_washed_1 : decode cX7_washed 1 = .ok (.getfield 22, 3) := by decide +kernel
theorem dX7_washed_4 : decode cX7_washed 4 = .ok (.iload_n 1, 1) := by decide +kernel
theorem dX7_washed_5 : decode cX7_washed 5 = .ok (.invokevirtual 121, 3) := by decide +kernel
theorem dX7_washed_8 : decode cX7_washed 8 = .ok (.ifCond .ne 9, 3) := by decide +kernel
theorem dX7_washed_11 : decode cX7_washed 11 = .ok (.aload_n 0, 1) := by decide +kernel
theorem dX7_washed_12 : decode cX7_washed 12 = .ok (.iconst (-1), 1) := by decide +kernel
theorem dX7_washed_13 : decode cX7_washed 13 = .ok (.invokevirtual 195, 3) := by decide +kernel
theorem dX7_washed_16 : decode cX7_washed 16 = .ok (.ireturn, 1) := by decide +kernel
theorem dX7_washed_17 : decode cX7_washed 17 = .ok (.iload_n 2, 1) := by decide +kernel
theorem dX7_washed_18 : decode cX7_washed 18 = .ok (.invokestatic 176, 3) := by decide +kernel
theorem dX7_washed_21 : decode cX7_washed 21 = .ok (.ifCond .ne 10, 3) := by decide +kernel
theorem dX7_washed_24 : decode cX7_washed 24 = .ok (.aload_n 0, 1) := by decide +kernel
theorem dX7_washed_25 : decode cX7_washed 25 = .ok (.bipush (-6), 2) := by decide +kernel
theorem dX7_washed_27 : decode cX7_washed 27 = .ok (.invokevirtual 195, 3) := by decide +kernel
theorem dX7_washed_30 : decode cX7_washed 30 = .ok (.ireturn, 1) := by decide +kernel
theorem dX7_washed_31 : decode cX7_washed 31 = .ok (.aload_n 0, 1) := by decide +kernel
theorem dX7_washed_32 : decode cX7_washed 32 = .ok (.getfield 35, 3) := by decide +kernel
theorem dX7_washed_35 : decode cX7_washed 35 = .ok (.aload_n 0, 1) := by decide +kernel
theorem dX7_washed_36 : decode cX7_washed 36 = .ok (.getfield 22, 3) := by decide +kernel
theorem dX7_washed_39 : decode cX7_washed 39 = .ok (.getfield 137, 3) := by decide +kernel
theorem dX7_washed_42 : decode cX7_washed 42 = .ok (.iload_n 1, 1) := by decide +kernel
theorem dX7_washed_43 : decode cX7_washed 43 = .ok (.aaload, 1) := by decide +kernel
theorem dX7_washed_44 : decode cX7_washed 44 = .ok (.invokevirtual 291, 3) := by decide +kernel
theorem dX7_washed_47 : decode cX7_washed 47 = .ok (.iconst 0, 1) := by decide +kernel
theorem dX7_washed_48 : decode cX7_washed 48 = .ok (.istore_n 3, 1) := by decide +kernel
theorem dX7_washed_49 : decode cX7_washed 49 = .ok (.iload_n 3, 1) := by decide +kernel
theorem dX7_washed_50 : decode cX7_washed 50 = .ok (.bipush 9, 2) := by decide +kernel
theorem dX7_washed_52 : decode cX7_washed 52 = .ok (.if_icmp .gt 30, 3) := by decide +kernel
theorem dX7_washed_55 : decode cX7_washed 55 = .ok (.aload_n 0, 1) := by decide +kernel
theorem dX7_washed_56 : decode cX7_washed 56 = .ok (.getfield 35, 3) := by decide +kernel
theorem dX7_washed_59 : decode cX7_washed 59 = .ok (.getfield 188, 3) := by decide +kernel
theorem dX7_washed_62 : decode cX7_washed 62 = .ok (.iload_n 2, 1) := by decide +kernel
theorem dX7_washed_63 : decode cX7_washed 63 = .ok (.iaload, 1) := by decide +kernel
theorem dX7_washed_64 : decode cX7_washed 64 = .ok (.ifCond .ne 5, 3) := by decide +kernel
theorem dX7_washed_67 : decode cX7_washed 67 = .ok (.iload_n 3, 1) := by decide +kernel
theorem dX7_washed_68 : decode cX7_washed 68 = .ok (.ireturn, 1) := by decide +kernel
theorem dX7_washed_69 : decode cX7_washed 69 = .ok (.aload_n 0, 1) := by decide +kernel
theorem dX7_washed_70 : decode cX7_washed 70 = .ok (.getfield 35, 3) := by decide +kernel
theorem dX7_washed_73 : decode cX7_washed 73 = .ok (.invokevirtual 294, 3) := by decide +kernel
theorem dX7_washed_76 : decode cX7_washed 76 = .ok (.iinc 3 1, 3) := by decide +kernel
theorem dX7_washed_79 : decode cX7_washed 79 = .ok (.goto (-30), 3) := by decide +kernel
theorem dX7_washed_82 : decode cX7_washed 82 = .ok (.iconst (-1), 1) := by decide +kernel
theorem dX7_washed_83 : decode cX7_washed 83 = .ok (.ireturn, 1) := by decide +kernel
theorem dX7_kept_0 : decode cX7_kept 0 = .ok (.aload_n 0, 1) := by decide +kernel
theorem dX7_kept_1 : decode cX7_kept 1 = .ok (.getfield 22, 3) := by decide +kernel
theorem dX7_kept_4 : decode cX7_kept 4 = .ok (.iload_n 1, 1) := by decide +kernel
theorem dX7_kept_5 : decode cX7_kept 5 = .ok (.invokevirtual 121, 3) := by decide +kernel
theorem dX7_kept_8 : decode cX7_kept 8 = .ok (.ifCond .ne 9, 3) := by decide +kernel
theorem dX7_kept_11 : decode cX7_kept 11 = .ok (.aload_n 0, 1) := by decide +kernel
theorem dX7_kept_12 : decode cX7_kept 12 = .ok (.iconst (-1), 1) := by decide +kernel
theorem dX7_kept_13 : decode cX7_kept 13 = .ok (.invokevirtual 73, 3) := by decide +kernel
theorem dX7_kept_16 : decode cX7_kept 16 = .ok (.ireturn, 1) := by decide +kernel
theorem dX7_kept_17 : decode cX7_kept 17 = .ok (.iload_n 2, 1) := by decide +kernel
theorem dX7_kept_18 : decode cX7_kept 18 = .ok (.iconst 0, 1) := by decide +kernel
theorem dX7_kept_19 : decode cX7_kept 19 = .ok (.bipush 9, 2) := by decide +kernel
theorem dX7_kept_21 : decode cX7_kept 21 = .ok (.invokestatic 77, 3) := by decide +kernel
theorem dX7_kept_24 : decode cX7_kept 24 = .ok (.ifCond .ne 10, 3) := by decide +kernel
theorem dX7_kept_27 : decode cX7_kept 27 = .ok (.aload_n 0, 1) := by decide +kernel
theorem dX7_kept_28 : decode cX7_kept 28 = .ok (.bipush (-6), 2) := by decide +kernel
theorem dX7_kept_30 : decode cX7_kept 30 = .ok (.invokevirtual 73, 3) := by decide +kernel
theorem dX7_kept_33 : decode cX7_kept 33 = .ok (.ireturn, 1) := by decide +kernel
theorem dX7_kept_34 : decode cX7_kept 34 = .ok (.aload_n 0, 1) := by decide +kernel
theorem dX7_kept_35 : decode cX7_kept 35 = .ok (.getfield 35, 3) := by decide +kernel
theorem dX7_kept_38 : decode cX7_kept 38 = .ok (.aload_n 0, 1) := by decide +kernel
theorem dX7_kept_39 : decode cX7_kept 39 = .ok (.getfield 22, 3) := by decide +kernel
theorem dX7_kept_42 : decode cX7_kept 42 = .ok (.getfield 137, 3) := by decide +kernel
theorem dX7_kept_45 : decode cX7_kept 45 = .ok (.iload_n 1, 1) := by decide +kernel
theorem dX7_kept_46 : decode cX7_kept 46 = .ok (.aaload, 1) := by decide +kernel
theorem dX7_kept_47 : decode cX7_kept 47 = .ok (.invokevirtual 291, 3) := by decide +kernel
theorem dX7_kept_50 : decode cX7_kept 50 = .ok (.iconst 0, 1) := by decide +kernel
theorem dX7_kept_51 : decode cX7_kept 51 = .ok (.istore_n 3, 1) := by decide +kernel
theorem dX7_kept_52 : decode cX7_kept 52 = .ok (.iload_n 3, 1) := by decide +kernel
theorem dX7_kept_53 : decode cX7_kept 53 = .ok (.iload_n 2, 1) := by decide +kernel
theorem dX7_kept_54 : decode cX7_kept 54 = .ok (.if_icmp .ge 16, 3) := by decide +kernel
theorem dX7_kept_57 : decode cX7_kept 57 = .ok (.aload_n 0, 1) := by decide +kernel
theorem dX7_kept_58 : decode cX7_kept 58 = .ok (.getfield 35, 3) := by decide +kernel
theorem dX7_kept_61 : decode cX7_kept 61 = .ok (.invokevirtual 294, 3) := by decide +kernel
theorem dX7_kept_64 : decode cX7_kept 64 = .ok (.iinc 3 1, 3) := by decide +kernel
theorem dX7_kept_67 : decode cX7_kept 67 = .ok (.goto (-15), 3) := by decide +kernel
theorem dX7_kept_70 : decode cX7_kept 70 = .ok (.aload_n 0, 1) := by decide +kernel
theorem dX7_kept_71 : decode cX7_kept 71 = .ok (.getfield 35, 3) := by decide +kernel
theorem dX7_kept_74 : decode cX7_kept 74 = .ok (.invokevirtual 155, 3) := by decide +kernel
theorem dX7_kept_77 : decode cX7_kept 77 = .ok (.ireturn, 1) := by decide +kernel
theorem dX7_two_0 : decode cX7_two 0 = .ok (.aload_n 0, 1) := by decide +kernel
theorem dX7_two_1 : decode cX7_two 1 = .ok (.getfield 22, 3) := by decide +kernel
theorem dX7_two_4 : decode cX7_two 4 = .ok (.iload_n 1, 1) := by decide +kernel
theorem dX7_two_5 : decode cX7_two 5 = .ok (.invokevirtual 121, 3) := by decide +kernel
theorem dX7_two_8 : decode cX7_two 8 = .ok (.ifCond .eq 14, 3) := by decide +kernel
theorem dX7_two_11 : decode cX7_two 11 = .ok (.aload_n 0, 1) := by decide +kernel
theorem dX7_two_12 : decode cX7_two 12 = .ok (.getfield 22, 3) := by decide +kernel
theorem dX7_two_15 : decode cX7_two 15 = .ok (.iload_n 2, 1) := by decide +kernel
theorem dX7_two_16 : decode cX7_two 16 = .ok (.invokevirtual 121, 3) := by decide +kernel
theorem dX7_two_19 : decode cX7_two 19 = .ok (.ifCond .ne 9, 3) := by decide +kernel
theorem dX7_two_22 : decode cX7_two 22 = .ok (.aload_n 0, 1) := by decide +kernel
theorem dX7_two_23 : decode cX7_two 23 = .ok (.iconst (-1), 1) := by decide +kernel
theorem dX7_two_24 : decode cX7_two 24 = .ok (.invokevirtual 73, 3) := by decide +kernel
theorem dX7_two_27 : decode cX7_two 27 = .ok (.ireturn, 1) := by decide +kernel
theorem dX7_two_28 : decode cX7_two 28 = .ok (.iload_n 3, 1) := by decide +kernel
theorem dX7_two_29 : decode cX7_two 29 = .ok (.iconst 0, 1) := by decide +kernel
theorem dX7_two_30 : decode cX7_two 30 = .ok (.iconst 1, 1) := by decide +kernel
theorem dX7_two_31 : decode cX7_two 31 = .ok (.invokestatic 77, 3) := by decide +kernel
theorem dX7_two_34 : decode cX7_two 34 = .ok (.ifCond .ne 10, 3) := by decide +kernel
theorem dX7_two_37 : decode cX7_two 37 = .ok (.aload_n 0, 1) := by decide +kernel
theorem dX7_two_38 : decode cX7_two 38 = .ok (.bipush (-5), 2) := by decide +kernel
theorem dX7_two_40 : decode cX7_two 40 = .ok (.invokevirtual 73, 3) := by decide +kernel
theorem dX7_two_43 : decode cX7_two 43 = .ok (.ireturn, 1) := by decide +kernel
theorem dX7_two_44 : decode cX7_two 44 = .ok (.iload_n 1, 1) := by decide +kernel
theorem dX7_two_45 : decode cX7_two 45 = .ok (.iload_n 2, 1) := by decide +kernel
theorem dX7_two_46 : decode cX7_two 46 = .ok (.if_icmp .ne 10, 3) := by decide +kernel
theorem dX7_two_49 : decode cX7_two 49 = .ok (.aload_n 0, 1) := by decide +kernel
theorem dX7_two_50 : decode cX7_two 50 = .ok (.bipush (-6), 2) := by decide +kernel
theorem dX7_two_52 : decode cX7_two 52 = .ok (.invokevirtual 73, 3) := by decide +kernel
theorem dX7_two_55 : decode cX7_two 55 = .ok (.ireturn, 1) := by decide +kernel
theorem dX7_two_56 : decode cX7_two 56 = .ok (.iload_n 3, 1) := by decide +kernel
theorem dX7_two_57 : decode cX7_two 57 = .ok (.ifCond .ne 15, 3) := by decide +kernel
theorem dX7_two_60 : decode cX7_two 60 = .ok (.aload_n 0, 1) := by decide +kernel
theorem dX7_two_61 : decode cX7_two 61 = .ok (.getfield 22, 3) := by decide +kernel
theorem dX7_two_64 : decode cX7_two 64 = .ok (.iload_n 1, 1) := by decide +kernel
theorem dX7_two_65 : decode cX7_two 65 = .ok (.iload_n 2, 1) := by decide +kernel
theorem dX7_two_66 : decode cX7_two 66 = .ok (.invokevirtual 297, 3) := by decide +kernel
theorem dX7_two_69 : decode cX7_two 69 = .ok (.goto 12, 3) := by decide +kernel
theorem dX7_two_72 : decode cX7_two 72 = .ok (.aload_n 0, 1) := by decide +kernel
theorem dX7_two_73 : decode cX7_two 73 = .ok (.getfield 22, 3) := by decide +kernel
theorem dX7_two_76 : decode cX7_two 76 = .ok (.iload_n 1, 1) := by decide +kernel
theorem dX7_two_77 : decode cX7_two 77 = .ok (.iload_n 2, 1) := by decide +kernel
theorem dX7_two_78 : decode cX7_two 78 = .ok (.invokevirtual 300, 3) := by decide +kernel
theorem dX7_two_81 : decode cX7_two 81 = .ok (.ireturn, 1) := by decide +kernel
theorem dX7_alone_0 : decode cX7_alone 0 = .ok (.iload_n 1, 1) := by decide +kernel
theorem dX7_alone_1 : decode cX7_alone 1 = .ok (.invokestatic 176, 3) := by decide +kernel
theorem dX7_alone_4 : decode cX7_alone 4 = .ok (.ifCond .ne 10, 3) := by decide +kernel
theorem dX7_alone_7 : decode cX7_alone 7 = .ok (.aload_n 0, 1) := by decide +kernel
theorem dX7_alone_8 : decode cX7_alone 8 = .ok (.bipush (-6), 2) := by decide +kernel
theorem dX7_alone_10 : decode cX7_alone 10 = .ok (.invokevirtual 73, 3) := by decide +kernel
theorem dX7_alone_13 : decode cX7_alone 13 = .ok (.ireturn, 1) := by decide +kernel
theorem dX7_alone_14 : decode cX7_alone 14 = .ok (.iconst 0, 1) := by decide +kernel
theorem dX7_alone_15 : decode cX7_alone 15 = .ok (.istore_n 2, 1) := by decide +kernel
theorem dX7_alone_16 : decode cX7_alone 16 = .ok (.iconst 0, 1) := by decide +kernel
theorem dX7_alone_17 : decode cX7_alone 17 = .ok (.istore_n 3, 1) := by decide +kernel
theorem dX7_alone_18 : decode cX7_alone 18 = .ok (.iload_n 3, 1) := by decide +kernel
theorem dX7_alone_19 : decode cX7_alone 19 = .ok (.aload_n 0, 1) := by decide +kernel
theorem dX7_alone_20 : decode cX7_alone 20 = .ok (.getfield 22, 3) := by decide +kernel
theorem dX7_alone_23 : decode cX7_alone 23 = .ok (.getfield 275, 3) := by decide +kernel
theorem dX7_alone_26 : decode cX7_alone 26 = .ok (.if_icmp .ge 27, 3) := by decide +kernel
theorem dX7_alone_29 : decode cX7_alone 29 = .ok (.aload_n 0, 1) := by decide +kernel
theorem dX7_alone_30 : decode cX7_alone 30 = .ok (.getfield 22, 3) := by decide +kernel
theorem dX7_alone_33 : decode cX7_alone 33 = .ok (.iload_n 3, 1) := by decide +kernel
theorem dX7_alone_34 : decode cX7_alone 34 = .ok (.iload_n 1, 1) := by decide +kernel
theorem dX7_alone_35 : decode cX7_alone 35 = .ok (.invokevirtual 239, 3) := by decide +kernel
theorem dX7_alone_38 : decode cX7_alone 38 = .ok (.ifCond .eq 9, 3) := by decide +kernel
theorem dX7_alone_41 : decode cX7_alone 41 = .ok (.iload_n 2, 1) := by decide +kernel
theorem dX7_alone_42 : decode cX7_alone 42 = .ok (.iconst 1, 1) := by decide +kernel
theorem dX7_alone_43 : decode cX7_alone 43 = .ok (.iload_n 3, 1) := by decide +kernel
theorem dX7_alone_44 : decode cX7_alone 44 = .ok (.ishl, 1) := by decide +kernel
theorem dX7_alone_45 : decode cX7_alone 45 = .ok (.ior, 1) := by decide +kernel
theorem dX7_alone_46 : decode cX7_alone 46 = .ok (.istore_n 2, 1) := by decide +kernel
theorem dX7_alone_47 : decode cX7_alone 47 = .ok (.iinc 3 1, 3) := by decide +kernel
theorem dX7_alone_50 : decode cX7_alone 50 = .ok (.goto (-32), 3) := by decide +kernel
theorem dX7_alone_53 : decode cX7_alone 53 = .ok (.iload_n 2, 1) := by decide +kernel
theorem dX7_alone_54 : decode cX7_alone 54 = .ok (.ireturn, 1) := by decide +kernel
theorem dX7_home_0 : decode cX7_home 0 = .ok (.aload_n 0, 1) := by decide +kernel
theorem dX7_home_1 : decode cX7_home 1 = .ok (.getfield 22, 3) := by decide +kernel
theorem dX7_home_4 : decode cX7_home 4 = .ok (.iload_n 1, 1) := by decide +kernel
theorem dX7_home_5 : decode cX7_home 5 = .ok (.invokevirtual 121, 3) := by decide +kernel
theorem dX7_home_8 : decode cX7_home 8 = .ok (.ifCond .ne 9, 3) := by decide +kernel
theorem dX7_home_11 : decode cX7_home 11 = .ok (.aload_n 0, 1) := by decide +kernel
theorem dX7_home_12 : decode cX7_home 12 = .ok (.iconst (-1), 1) := by decide +kernel
theorem dX7_home_13 : decode cX7_home 13 = .ok (.invokevirtual 195, 3) := by decide +kernel
theorem dX7_home_16 : decode cX7_home 16 = .ok (.ireturn, 1) := by decide +kernel
theorem dX7_home_17 : decode cX7_home 17 = .ok (.aload_n 0, 1) := by decide +kernel
theorem dX7_home_18 : decode cX7_home 18 = .ok (.getfield 22, 3) := by decide +kernel
theorem dX7_home_21 : decode cX7_home 21 = .ok (.iload_n 1, 1) := by decide +kernel
theorem dX7_home_22 : decode cX7_home 22 = .ok (.invokevirtual 256, 3) := by decide +kernel
theorem dX7_home_25 : decode cX7_home 25 = .ok (.istore_n 2, 1) := by decide +kernel
theorem dX7_home_26 : decode cX7_home 26 = .ok (.iload_n 2, 1) := by decide +kernel
theorem dX7_home_27 : decode cX7_home 27 = .ok (.iconst (-1), 1) := by decide +kernel
theorem dX7_home_28 : decode cX7_home 28 = .ok (.if_icmp .ne 5, 3) := by decide +kernel
theorem dX7_home_31 : decode cX7_home 31 = .ok (.iconst (-1), 1) := by decide +kernel
theorem dX7_home_32 : decode cX7_home 32 = .ok (.ireturn, 1) := by decide +kernel
theorem dX7_home_33 : decode cX7_home 33 = .ok (.iconst 0, 1) := by decide +kernel
theorem dX7_home_34 : decode cX7_home 34 = .ok (.istore_n 3, 1) := by decide +kernel
theorem dX7_home_35 : decode cX7_home 35 = .ok (.iload_n 3, 1) := by decide +kernel
theorem dX7_home_36 : decode cX7_home 36 = .ok (.bipush 12, 2) := by decide +kernel
theorem dX7_home_38 : decode cX7_home 38 = .ok (.if_icmp .ge 28, 3) := by decide +kernel
theorem dX7_home_41 : decode cX7_home 41 = .ok (.aload_n 0, 1) := by decide +kernel
theorem dX7_home_42 : decode cX7_home 42 = .ok (.getfield 22, 3) := by decide +kernel
theorem dX7_home_45 : decode cX7_home 45 = .ok (.iload_n 1, 1) := by decide +kernel
theorem dX7_home_46 : decode cX7_home 46 = .ok (.iload_n 3, 1) := by decide +kernel
theorem dX7_home_47 : decode cX7_home 47 = .ok (.invokevirtual 239, 3) := by decide +kernel
theorem dX7_home_50 : decode cX7_home 50 = .ok (.ifCond .eq 10, 3) := by decide +kernel
theorem dX7_home_53 : decode cX7_home 53 = .ok (.bipush 100, 2) := by decide +kernel
theorem dX7_home_55 : decode cX7_home 55 = .ok (.iload_n 2, 1) := by decide +kernel
theorem dX7_home_56 : decode cX7_home 56 = .ok (.imul, 1) := by decide +kernel
theorem dX7_home_57 : decode cX7_home 57 = .ok (.iload_n 3, 1) := by decide +kernel
theorem dX7_home_58 : decode cX7_home 58 = .ok (.iadd, 1) := by decide +kernel
theorem dX7_home_59 : decode cX7_home 59 = .ok (.ireturn, 1) := by decide +kernel
theorem dX7_home_60 : decode cX7_home 60 = .ok (.iinc 3 1, 3) := by decide +kernel
theorem dX7_home_63 : decode cX7_home 63 = .ok (.goto (-28), 3) := by decide +kernel
theorem dX7_home_66 : decode cX7_home 66 = .ok (.iconst (-1), 1) := by decide +kernel
theorem dX7_home_67 : decode cX7_home 67 = .ok (.ireturn, 1) := by decide +kernel
theorem dX7_cure_0 : decode cX7_cure 0 = .ok (.aload_n 0, 1) := by decide +kernel
theorem dX7_cure_1 : decode cX7_cure 1 = .ok (.getfield 22, 3) := by decide +kernel
theorem dX7_cure_4 : decode cX7_cure 4 = .ok (.iload_n 1, 1) := by decide +kernel
theorem dX7_cure_5 : decode cX7_cure 5 = .ok (.invokevirtual 173, 3) := by decide +kernel
theorem dX7_cure_8 : decode cX7_cure 8 = .ok (.ifCond .ne 9, 3) := by decide +kernel
theorem dX7_cure_11 : decode cX7_cure 11 = .ok (.aload_n 0, 1) := by decide +kernel
theorem dX7_cure_12 : decode cX7_cure 12 = .ok (.iconst (-1), 1) := by decide +kernel
theorem dX7_cure_13 : decode cX7_cure 13 = .ok (.invokevirtual 195, 3) := by decide +kernel
theorem dX7_cure_16 : decode cX7_cure 16 = .ok (.ireturn, 1) := by decide +kernel
theorem dX7_cure_17 : decode cX7_cure 17 = .ok (.iload_n 2, 1) := by decide +kernel
theorem dX7_cure_18 : decode cX7_cure 18 = .ok (.iconst 0, 1) := by decide +kernel
theorem dX7_cure_19 : decode cX7_cure 19 = .ok (.iconst 1, 1) := by decide +kernel
theorem dX7_cure_20 : decode cX7_cure 20 = .ok (.invokestatic 77, 3) := by decide +kernel
theorem dX7_cure_23 : decode cX7_cure 23 = .ok (.ifCond .ne 10, 3) := by decide +kernel
theorem dX7_cure_26 : decode cX7_cure 26 = .ok (.aload_n 0, 1) := by decide +kernel
theorem dX7_cure_27 : decode cX7_cure 27 = .ok (.bipush (-5), 2) := by decide +kernel
theorem dX7_cure_29 : decode cX7_cure 29 = .ok (.invokevirtual 195, 3) := by decide +kernel
theorem dX7_cure_32 : decode cX7_cure 32 = .ok (.ireturn, 1) := by decide +kernel
theorem dX7_cure_33 : decode cX7_cure 33 = .ok (.iload_n 2, 1) := by decide +kernel
theorem dX7_cure_34 : decode cX7_cure 34 = .ok (.ifCond .ne 14, 3) := by decide +kernel
theorem dX7_cure_37 : decode cX7_cure 37 = .ok (.aload_n 0, 1) := by decide +kernel
theorem dX7_cure_38 : decode cX7_cure 38 = .ok (.getfield 22, 3) := by decide +kernel
theorem dX7_cure_41 : decode cX7_cure 41 = .ok (.iload_n 1, 1) := by decide +kernel
theorem dX7_cure_42 : decode cX7_cure 42 = .ok (.invokevirtual 303, 3) := by decide +kernel
theorem dX7_cure_45 : decode cX7_cure 45 = .ok (.goto 11, 3) := by decide +kernel
theorem dX7_cure_48 : decode cX7_cure 48 = .ok (.aload_n 0, 1) := by decide +kernel
theorem dX7_cure_49 : decode cX7_cure 49 = .ok (.getfield 22, 3) := by decide +kernel
theorem dX7_cure_52 : decode cX7_cure 52 = .ok (.iload_n 1, 1) := by decide +kernel
theorem dX7_cure_53 : decode cX7_cure 53 = .ok (.invokevirtual 306, 3) := by decide +kernel
theorem dX7_cure_56 : decode cX7_cure 56 = .ok (.ireturn, 1) := by decide +kernel
theorem dX7_judge_0 : decode cX7_judge 0 = .ok (.iload_n 1, 1) := by decide +kernel
theorem dX7_judge_1 : decode cX7_judge 1 = .ok (.invokestatic 69, 3) := by decide +kernel
theorem dX7_judge_4 : decode cX7_judge 4 = .ok (.ifCond .eq 14, 3) := by decide +kernel
theorem dX7_judge_7 : decode cX7_judge 7 = .ok (.aload_n 0, 1) := by decide +kernel
theorem dX7_judge_8 : decode cX7_judge 8 = .ok (.getfield 22, 3) := by decide +kernel
theorem dX7_judge_11 : decode cX7_judge 11 = .ok (.iload_n 2, 1) := by decide +kernel
theorem dX7_judge_12 : decode cX7_judge 12 = .ok (.invokevirtual 173, 3) := by decide +kernel
theorem dX7_judge_15 : decode cX7_judge 15 = .ok (.ifCond .ne 9, 3) := by decide +kernel
theorem dX7_judge_18 : decode cX7_judge 18 = .ok (.aload_n 0, 1) := by decide +kernel
theorem dX7_judge_19 : decode cX7_judge 19 = .ok (.iconst (-1), 1) := by decide +kernel
theorem dX7_judge_20 : decode cX7_judge 20 = .ok (.invokevirtual 195, 3) := by decide +kernel
theorem dX7_judge_23 : decode cX7_judge 23 = .ok (.ireturn, 1) := by decide +kernel
theorem dX7_judge_24 : decode cX7_judge 24 = .ok (.aload_n 0, 1) := by decide +kernel
theorem dX7_judge_25 : decode cX7_judge 25 = .ok (.iload_n 1, 1) := by decide +kernel
theorem dX7_judge_26 : decode cX7_judge 26 = .ok (.invokevirtual 259, 3) := by decide +kernel
theorem dX7_judge_29 : decode cX7_judge 29 = .ok (.istore_n 3, 1) := by decide +kernel
theorem dX7_judge_30 : decode cX7_judge 30 = .ok (.iload_n 3, 1) := by decide +kernel
theorem dX7_judge_31 : decode cX7_judge 31 = .ok (.ifCond .eq 9, 3) := by decide +kernel
theorem dX7_judge_34 : decode cX7_judge 34 = .ok (.aload_n 0, 1) := by decide +kernel
theorem dX7_judge_35 : decode cX7_judge 35 = .ok (.iload_n 3, 1) := by decide +kernel
theorem dX7_judge_36 : decode cX7_judge 36 = .ok (.invokevirtual 195, 3) := by decide +kernel
theorem dX7_judge_39 : decode cX7_judge 39 = .ok (.ireturn, 1) := by decide +kernel
theorem dX7_judge_40 : decode cX7_judge 40 = .ok (.iconst 0, 1) := by decide +kernel
theorem dX7_judge_41 : decode cX7_judge 41 = .ok (.istore 4, 2) := by decide +kernel
theorem dX7_judge_43 : decode cX7_judge 43 = .ok (.iload 4, 2) := by decide +kernel
theorem dX7_judge_45 : decode cX7_judge 45 = .ok (.bipush 12, 2) := by decide +kernel
theorem dX7_judge_47 : decode cX7_judge 47 = .ok (.if_icmp .ge 36, 3) := by decide +kernel
theorem dX7_judge_50 : decode cX7_judge 50 = .ok (.aload_n 0, 1) := by decide +kernel
theorem dX7_judge_51 : decode cX7_judge 51 = .ok (.getfield 11, 3) := by decide +kernel
theorem dX7_judge_54 : decode cX7_judge 54 = .ok (.iload_n 1, 1) := by decide +kernel
theorem dX7_judge_55 : decode cX7_judge 55 = .ok (.aaload, 1) := by decide +kernel
theorem dX7_judge_56 : decode cX7_judge 56 = .ok (.iload 4, 2) := by decide +kernel
theorem dX7_judge_58 : decode cX7_judge 58 = .ok (.invokevirtual 269, 3) := by decide +kernel
theorem dX7_judge_61 : decode cX7_judge 61 = .ok (.aload_n 0, 1) := by decide +kernel
theorem dX7_judge_62 : decode cX7_judge 62 = .ok (.getfield 22, 3) := by decide +kernel
theorem dX7_judge_65 : decode cX7_judge 65 = .ok (.iload_n 2, 1) := by decide +kernel
theorem dX7_judge_66 : decode cX7_judge 66 = .ok (.iload 4, 2) := by decide +kernel
theorem dX7_judge_68 : decode cX7_judge 68 = .ok (.invokevirtual 236, 3) := by decide +kernel
theorem dX7_judge_71 : decode cX7_judge 71 = .ok (.if_icmp .eq 6, 3) := by decide +kernel
theorem dX7_judge_74 : decode cX7_judge 74 = .ok (.iload 4, 2) := by decide +kernel
theorem dX7_judge_76 : decode cX7_judge 76 = .ok (.ireturn, 1) := by decide +kernel
theorem dX7_judge_77 : decode cX7_judge 77 = .ok (.iinc 4 1, 3) := by decide +kernel
theorem dX7_judge_80 : decode cX7_judge 80 = .ok (.goto (-37), 3) := by decide +kernel
theorem dX7_judge_83 : decode cX7_judge 83 = .ok (.iconst (-1), 1) := by decide +kernel
theorem dX7_judge_84 : decode cX7_judge 84 = .ok (.ireturn, 1) := by decide +kernel
theorem dX7_taught_0 : decode cX7_taught 0 = .ok (.iload_n 1, 1) := by decide +kernel
theorem dX7_taught_1 : decode cX7_taught 1 = .ok (.invokestatic 69, 3) := by decide +kernel
theorem dX7_taught_4 : decode cX7_taught 4 = .ok (.ifCond .eq 14, 3) := by decide +kernel
theorem dX7_taught_7 : decode cX7_taught 7 = .ok (.aload_n 0, 1) := by decide +kernel
theorem dX7_taught_8 : decode cX7_taught 8 = .ok (.getfield 22, 3) := by decide +kernel
theorem dX7_taught_11 : decode cX7_taught 11 = .ok (.iload_n 2, 1) := by decide +kernel
theorem dX7_taught_12 : decode cX7_taught 12 = .ok (.invokevirtual 121, 3) := by decide +kernel
theorem dX7_taught_15 : decode cX7_taught 15 = .ok (.ifCond .ne 9, 3) := by decide +kernel
theorem dX7_taught_18 : decode cX7_taught 18 = .ok (.aload_n 0, 1) := by decide +kernel
theorem dX7_taught_19 : decode cX7_taught 19 = .ok (.iconst (-1), 1) := by decide +kernel
theorem dX7_taught_20 : decode cX7_taught 20 = .ok (.invokevirtual 195, 3) := by decide +kernel
theorem dX7_taught_23 : decode cX7_taught 23 = .ok (.ireturn, 1) := by decide +kernel
theorem dX7_taught_24 : decode cX7_taught 24 = .ok (.aload_n 0, 1) := by decide +kernel
theorem dX7_taught_25 : decode cX7_taught 25 = .ok (.iload_n 1, 1) := by decide +kernel
theorem dX7_taught_26 : decode cX7_taught 26 = .ok (.invokevirtual 259, 3) := by decide +kernel
theorem dX7_taught_29 : decode cX7_taught 29 = .ok (.istore_n 3, 1) := by decide +kernel
theorem dX7_taught_30 : decode cX7_taught 30 = .ok (.iload_n 3, 1) := by decide +kernel
theorem dX7_taught_31 : decode cX7_taught 31 = .ok (.ifCond .eq 9, 3) := by decide +kernel
theorem dX7_taught_34 : decode cX7_taught 34 = .ok (.aload_n 0, 1) := by decide +kernel
theorem dX7_taught_35 : decode cX7_taught 35 = .ok (.iload_n 3, 1) := by decide +kernel
theorem dX7_taught_36 : decode cX7_taught 36 = .ok (.invokevirtual 195, 3) := by decide +kernel
theorem dX7_taught_39 : decode cX7_taught 39 = .ok (.ireturn, 1) := by decide +kernel
theorem dX7_taught_40 : decode cX7_taught 40 = .ok (.aload_n 0, 1) := by decide +kernel
theorem dX7_taught_41 : decode cX7_taught 41 = .ok (.getfield 11, 3) := by decide +kernel
theorem dX7_taught_44 : decode cX7_taught 44 = .ok (.iload_n 1, 1) := by decide +kernel
theorem dX7_taught_45 : decode cX7_taught 45 = .ok (.aaload, 1) := by decide +kernel
theorem dX7_taught_46 : decode cX7_taught 46 = .ok (.invokevirtual 309, 3) := by decide +kernel
theorem dX7_taught_49 : decode cX7_taught 49 = .ok (.ifCond .ne 10, 3) := by decide +kernel
theorem dX7_taught_52 : decode cX7_taught 52 = .ok (.aload_n 0, 1) := by decide +kernel
theorem dX7_taught_53 : decode cX7_taught 53 = .ok (.bipush (-6), 2) := by decide +kernel
theorem dX7_taught_55 : decode cX7_taught 55 = .ok (.invokevirtual 195, 3) := by decide +kernel
theorem dX7_taught_58 : decode cX7_taught 58 = .ok (.ireturn, 1) := by decide +kernel
theorem dX7_taught_59 : decode cX7_taught 59 = .ok (.aload_n 0, 1) := by decide +kernel
theorem dX7_taught_60 : decode cX7_taught 60 = .ok (.getfield 35, 3) := by decide +kernel
theorem dX7_taught_63 : decode cX7_taught 63 = .ok (.aload_n 0, 1) := by decide +kernel
theorem dX7_taught_64 : decode cX7_taught 64 = .ok (.getfield 22, 3) := by decide +kernel
theorem dX7_taught_67 : decode cX7_taught 67 = .ok (.getfield 137, 3) := by decide +kernel
theorem dX7_taught_70 : decode cX7_taught 70 = .ok (.iload_n 2, 1) := by decide +kernel
theorem dX7_taught_71 : decode cX7_taught 71 = .ok (.aaload, 1) := by decide +kernel
theorem dX7_taught_72 : decode cX7_taught 72 = .ok (.invokevirtual 291, 3) := by decide +kernel
theorem dX7_taught_75 : decode cX7_taught 75 = .ok (.iconst 0, 1) := by decide +kernel
theorem dX7_taught_76 : decode cX7_taught 76 = .ok (.istore 4, 2) := by decide +kernel
theorem dX7_taught_78 : decode cX7_taught 78 = .ok (.iload 4, 2) := by decide +kernel
theorem dX7_taught_80 : decode cX7_taught 80 = .ok (.bipush 60, 2) := by decide +kernel
theorem dX7_taught_82 : decode cX7_taught 82 = .ok (.if_icmp .gt 41, 3) := by decide +kernel
theorem dX7_taught_85 : decode cX7_taught 85 = .ok (.aload_n 0, 1) := by decide +kernel
theorem dX7_taught_86 : decode cX7_taught 86 = .ok (.getfield 35, 3) := by decide +kernel
theorem dX7_taught_89 : decode cX7_taught 89 = .ok (.aload_n 0, 1) := by decide +kernel
theorem dX7_taught_90 : decode cX7_taught 90 = .ok (.getfield 11, 3) := by decide +kernel
theorem dX7_taught_93 : decode cX7_taught 93 = .ok (.iload_n 1, 1) := by decide +kernel
theorem dX7_taught_94 : decode cX7_taught 94 = .ok (.aaload, 1) := by decide +kernel
theorem dX7_taught_95 : decode cX7_taught 95 = .ok (.invokevirtual 312, 3) := by decide +kernel
theorem dX7_taught_98 : decode cX7_taught 98 = .ok (.ifCond .eq 6, 3) := by decide +kernel
theorem dX7_taught_101 : decode cX7_taught 101 = .ok (.iload 4, 2) := by decide +kernel
theorem dX7_taught_103 : decode cX7_taught 103 = .ok (.ireturn, 1) := by decide +kernel
theorem dX7_taught_104 : decode cX7_taught 104 = .ok (.aload_n 0, 1) := by decide +kernel
theorem dX7_taught_105 : decode cX7_taught 105 = .ok (.getfield 35, 3) := by decide +kernel
theorem dX7_taught_108 : decode cX7_taught 108 = .ok (.aload_n 0, 1) := by decide +kernel
theorem dX7_taught_109 : decode cX7_taught 109 = .ok (.getfield 11, 3) := by decide +kernel
theorem dX7_taught_112 : decode cX7_taught 112 = .ok (.iload_n 1, 1) := by decide +kernel
theorem dX7_taught_113 : decode cX7_taught 113 = .ok (.aaload, 1) := by decide +kernel
theorem dX7_taught_114 : decode cX7_taught 114 = .ok (.invokevirtual 315, 3) := by decide +kernel
theorem dX7_taught_117 : decode cX7_taught 117 = .ok (.iinc 4 1, 3) := by decide +kernel
theorem dX7_taught_120 : decode cX7_taught 120 = .ok (.goto (-42), 3) := by decide +kernel
theorem dX7_taught_123 : decode cX7_taught 123 = .ok (.iconst (-1), 1) := by decide +kernel
theorem dX7_taught_124 : decode cX7_taught 124 = .ok (.ireturn, 1) := by decide +kernel
theorem dX7_wash_0 : decode cX7_wash 0 = .ok (.aload_n 0, 1) := by decide +kernel
theorem dX7_wash_1 : decode cX7_wash 1 = .ok (.getfield 22, 3) := by decide +kernel
theorem dX7_wash_4 : decode cX7_wash 4 = .ok (.iload_n 1, 1) := by decide +kernel
theorem dX7_wash_5 : decode cX7_wash 5 = .ok (.invokevirtual 121, 3) := by decide +kernel
theorem dX7_wash_8 : decode cX7_wash 8 = .ok (.ifCond .ne 9, 3) := by decide +kernel
theorem dX7_wash_11 : decode cX7_wash 11 = .ok (.aload_n 0, 1) := by decide +kernel
theorem dX7_wash_12 : decode cX7_wash 12 = .ok (.iconst (-1), 1) := by decide +kernel
theorem dX7_wash_13 : decode cX7_wash 13 = .ok (.invokevirtual 73, 3) := by decide +kernel
theorem dX7_wash_16 : decode cX7_wash 16 = .ok (.ireturn, 1) := by decide +kernel
theorem dX7_wash_17 : decode cX7_wash 17 = .ok (.aload_n 0, 1) := by decide +kernel
theorem dX7_wash_18 : decode cX7_wash 18 = .ok (.getfield 22, 3) := by decide +kernel
theorem dX7_wash_21 : decode cX7_wash 21 = .ok (.getfield 137, 3) := by decide +kernel
theorem dX7_wash_24 : decode cX7_wash 24 = .ok (.iload_n 1, 1) := by decide +kernel
theorem dX7_wash_25 : decode cX7_wash 25 = .ok (.aaload, 1) := by decide +kernel
theorem dX7_wash_26 : decode cX7_wash 26 = .ok (.invokevirtual 294, 3) := by decide +kernel
theorem dX7_wash_29 : decode cX7_wash 29 = .ok (.aload_n 0, 1) := by decide +kernel
theorem dX7_wash_30 : decode cX7_wash 30 = .ok (.getfield 22, 3) := by decide +kernel
theorem dX7_wash_33 : decode cX7_wash 33 = .ok (.getfield 137, 3) := by decide +kernel
theorem dX7_wash_36 : decode cX7_wash 36 = .ok (.iload_n 1, 1) := by decide +kernel
theorem dX7_wash_37 : decode cX7_wash 37 = .ok (.aaload, 1) := by decide +kernel
theorem dX7_wash_38 : decode cX7_wash 38 = .ok (.invokevirtual 155, 3) := by decide +kernel
theorem dX7_wash_41 : decode cX7_wash 41 = .ok (.ireturn, 1) := by decide +kernel
theorem dX7_days_0 : decode cX7_days 0 = .ok (.iload_n 1, 1) := by decide +kernel
theorem dX7_days_1 : decode cX7_days 1 = .ok (.iconst 1, 1) := by decide +kernel
theorem dX7_days_2 : decode cX7_days 2 = .ok (.bipush 60, 2) := by decide +kernel
theorem dX7_days_4 : decode cX7_days 4 = .ok (.invokestatic 77, 3) := by decide +kernel
theorem dX7_days_7 : decode cX7_days 7 = .ok (.ifCond .ne 10, 3) := by decide +kernel
theorem dX7_days_10 : decode cX7_days 10 = .ok (.aload_n 0, 1) := by decide +kernel
theorem dX7_days_11 : decode cX7_days 11 = .ok (.bipush (-6), 2) := by decide +kernel
theorem dX7_days_13 : decode cX7_days 13 = .ok (.invokevirtual 73, 3) := by decide +kernel
theorem dX7_days_16 : decode cX7_days 16 = .ok (.ireturn, 1) := by decide +kernel
theorem dX7_days_17 : decode cX7_days 17 = .ok (.iconst 0, 1) := by decide +kernel
theorem dX7_days_18 : decode cX7_days 18 = .ok (.istore_n 2, 1) := by decide +kernel
theorem dX7_days_19 : decode cX7_days 19 = .ok (.iconst 0, 1) := by decide +kernel
theorem dX7_days_20 : decode cX7_days 20 = .ok (.istore_n 3, 1) := by decide +kernel
theorem dX7_days_21 : decode cX7_days 21 = .ok (.iload_n 3, 1) := by decide +kernel
theorem dX7_days_22 : decode cX7_days 22 = .ok (.iload_n 1, 1) := by decide +kernel
theorem dX7_days_23 : decode cX7_days 23 = .ok (.if_icmp .ge 19, 3) := by decide +kernel
theorem dX7_days_26 : decode cX7_days 26 = .ok (.iload_n 2, 1) := by decide +kernel
theorem dX7_days_27 : decode cX7_days 27 = .ok (.aload_n 0, 1) := by decide +kernel
theorem dX7_days_28 : decode cX7_days 28 = .ok (.getfield 22, 3) := by decide +kernel
theorem dX7_days_31 : decode cX7_days 31 = .ok (.invokevirtual 319, 3) := by decide +kernel
theorem dX7_days_34 : decode cX7_days 34 = .ok (.iadd, 1) := by decide +kernel
theorem dX7_days_35 : decode cX7_days 35 = .ok (.istore_n 2, 1) := by decide +kernel
theorem dX7_days_36 : decode cX7_days 36 = .ok (.iinc 3 1, 3) := by decide +kernel
theorem dX7_days_39 : decode cX7_days 39 = .ok (.goto (-18), 3) := by decide +kernel
theorem dX7_days_42 : decode cX7_days 42 = .ok (.iload_n 2, 1) := by decide +kernel
theorem dX7_days_43 : decode cX7_days 43 = .ok (.ireturn, 1) := by decide +kernel
theorem dX7_years_0 : decode cX7_years 0 = .ok (.aload_n 0, 1) := by decide +kernel
theorem dX7_years_1 : decode cX7_years 1 = .ok (.getfield 22, 3) := by decide +kernel
theorem dX7_years_4 : decode cX7_years 4 = .ok (.getfield 275, 3) := by decide +kernel
theorem dX7_years_7 : decode cX7_years 7 = .ok (.ifCond .ne 10, 3) := by decide +kernel
theorem dX7_years_10 : decode cX7_years 10 = .ok (.aload_n 0, 1) := by decide +kernel
theorem dX7_years_11 : decode cX7_years 11 = .ok (.bipush (-5), 2) := by decide +kernel
theorem dX7_years_13 : decode cX7_years 13 = .ok (.invokevirtual 73, 3) := by decide +kernel
theorem dX7_years_16 : decode cX7_years 16 = .ok (.ireturn, 1) := by decide +kernel
theorem dX7_years_17 : decode cX7_years 17 = .ok (.iload_n 1, 1) := by decide +kernel
theorem dX7_years_18 : decode cX7_years 18 = .ok (.iconst 1, 1) := by decide +kernel
theorem dX7_years_19 : decode cX7_years 19 = .ok (.bipush 60, 2) := by decide +kernel
theorem dX7_years_21 : decode cX7_years 21 = .ok (.invokestatic 77, 3) := by decide +kernel
theorem dX7_years_24 : decode cX7_years 24 = .ok (.ifCond .ne 10, 3) := by decide +kernel
theorem dX7_years_27 : decode cX7_years 27 = .ok (.aload_n 0, 1) := by decide +kernel
theorem dX7_years_28 : decode cX7_years 28 = .ok (.bipush (-6), 2) := by decide +kernel
theorem dX7_years_30 : decode cX7_years 30 = .ok (.invokevirtual 73, 3) := by decide +kernel
theorem dX7_years_33 : decode cX7_years 33 = .ok (.ireturn, 1) := by decide +kernel
theorem dX7_years_34 : decode cX7_years 34 = .ok (.iconst 0, 1) := by decide +kernel
theorem dX7_years_35 : decode cX7_years 35 = .ok (.istore_n 2, 1) := by decide +kernel
theorem dX7_years_36 : decode cX7_years 36 = .ok (.iload_n 2, 1) := by decide +kernel
theorem dX7_years_37 : decode cX7_years 37 = .ok (.iload_n 1, 1) := by decide +kernel
theorem dX7_years_38 : decode cX7_years 38 = .ok (.if_icmp .ge 16, 3) := by decide +kernel
theorem dX7_years_41 : decode cX7_years 41 = .ok (.aload_n 0, 1) := by decide +kernel
theorem dX7_years_42 : decode cX7_years 42 = .ok (.getfield 22, 3) := by decide +kernel
theorem dX7_years_45 : decode cX7_years 45 = .ok (.invokevirtual 322, 3) := by decide +kernel
theorem dX7_years_48 : decode cX7_years 48 = .ok (.iinc 2 1, 3) := by decide +kernel
theorem dX7_years_51 : decode cX7_years 51 = .ok (.goto (-15), 3) := by decide +kernel
theorem dX7_years_54 : decode cX7_years 54 = .ok (.aload_n 0, 1) := by decide +kernel
theorem dX7_years_55 : decode cX7_years 55 = .ok (.getfield 22, 3) := by decide +kernel
theorem dX7_years_58 : decode cX7_years 58 = .ok (.invokevirtual 325, 3) := by decide +kernel
theorem dX7_years_61 : decode cX7_years 61 = .ok (.ireturn, 1) := by decide +kernel
theorem dX7_seed_0 : decode cX7_seed 0 = .ok (.aload_n 0, 1) := by decide +kernel
theorem dX7_seed_1 : decode cX7_seed 1 = .ok (.getfield 22, 3) := by decide +kernel
theorem dX7_seed_4 : decode cX7_seed 4 = .ok (.getfield 326, 3) := by decide +kernel
theorem dX7_seed_7 : decode cX7_seed 7 = .ok (.istore_n 2, 1) := by decide +kernel
theorem dX7_seed_8 : decode cX7_seed 8 = .ok (.aload_n 0, 1) := by decide +kernel
theorem dX7_seed_9 : decode cX7_seed 9 = .ok (.getfield 22, 3) := by decide +kernel
theorem dX7_seed_12 : decode cX7_seed 12 = .ok (.iload_n 1, 1) := by decide +kernel
theorem dX7_seed_13 : decode cX7_seed 13 = .ok (.putfield 326, 3) := by decide +kernel
theorem dX7_seed_16 : decode cX7_seed 16 = .ok (.iload_n 2, 1) := by decide +kernel
theorem dX7_seed_17 : decode cX7_seed 17 = .ok (.ireturn, 1) := by decide +kernel
theorem dX7_act_0 : decode cX7_act 0 = .ok (.aload_n 0, 1) := by decide +kernel
theorem dX7_act_1 : decode cX7_act 1 = .ok (.getfield 56, 3) := by decide +kernel
theorem dX7_act_4 : decode cX7_act 4 = .ok (.invokevirtual 329, 3) := by decide +kernel
theorem dX7_act_7 : decode cX7_act 7 = .ok (.aload_n 0, 1) := by decide +kernel
theorem dX7_act_8 : decode cX7_act 8 = .ok (.getfield 22, 3) := by decide +kernel
theorem dX7_act_11 : decode cX7_act 11 = .ok (.iload_n 1, 1) := by decide +kernel
theorem dX7_act_12 : decode cX7_act 12 = .ok (.invokevirtual 121, 3) := by decide +kernel
theorem dX7_act_15 : decode cX7_act 15 = .ok (.ifCond .eq 12, 3) := by decide +kernel
theorem dX7_act_18 : decode cX7_act 18 = .ok (.iload_n 2, 1) := by decide +kernel
theorem dX7_act_19 : decode cX7_act 19 = .ok (.iconst 0, 1) := by decide +kernel
theorem dX7_act_20 : decode cX7_act 20 = .ok (.iconst 2, 1) := by decide +kernel
theorem dX7_act_21 : decode cX7_act 21 = .ok (.invokestatic 77, 3) := by decide +kernel
theorem dX7_act_24 : decode cX7_act 24 = .ok (.ifCond .ne 5, 3) := by decide +kernel
theorem dX7_act_27 : decode cX7_act 27 = .ok (.iconst 0, 1) := by decide +kernel
theorem dX7_act_28 : decode cX7_act 28 = .ok (.ireturn, 1) := by decide +kernel
theorem dX7_act_29 : decode cX7_act 29 = .ok (.aload_n 0, 1) := by decide +kernel
theorem dX7_act_30 : decode cX7_act 30 = .ok (.getfield 56, 3) := by decide +kernel
theorem dX7_act_33 : decode cX7_act 33 = .ok (.aload_n 0, 1) := by decide +kernel
theorem dX7_act_34 : decode cX7_act 34 = .ok (.getfield 22, 3) := by decide +kernel
theorem dX7_act_37 : decode cX7_act 37 = .ok (.getfield 137, 3) := by decide +kernel
theorem dX7_act_40 : decode cX7_act 40 = .ok (.iload_n 1, 1) := by decide +kernel
theorem dX7_act_41 : decode cX7_act 41 = .ok (.aaload, 1) := by decide +kernel
theorem dX7_act_42 : decode cX7_act 42 = .ok (.iload_n 1, 1) := by decide +kernel
theorem dX7_act_43 : decode cX7_act 43 = .ok (.iload_n 2, 1) := by decide +kernel
theorem dX7_act_44 : decode cX7_act 44 = .ok (.iload_n 3, 1) := by decide +kernel
theorem dX7_act_45 : decode cX7_act 45 = .ok (.invokevirtual 332, 3) := by decide +kernel
theorem dX7_act_48 : decode cX7_act 48 = .ok (.ireturn, 1) := by decide +kernel
theorem dX7_trace_0 : decode cX7_trace 0 = .ok (.aload_n 0, 1) := by decide +kernel
theorem dX7_trace_1 : decode cX7_trace 1 = .ok (.getfield 56, 3) := by decide +kernel
theorem dX7_trace_4 : decode cX7_trace 4 = .ok (.iload_n 1, 1) := by decide +kernel
theorem dX7_trace_5 : decode cX7_trace 5 = .ok (.invokevirtual 336, 3) := by decide +kernel
theorem dX7_trace_8 : decode cX7_trace 8 = .ok (.ireturn, 1) := by decide +kernel
theorem dX7_image_0 : decode cX7_image 0 = .ok (.aload_n 0, 1) := by decide +kernel
theorem dX7_image_1 : decode cX7_image 1 = .ok (.getfield 29, 3) := by decide +kernel
theorem dX7_image_4 : decode cX7_image 4 = .ok (.aload_n 0, 1) := by decide +kernel
theorem dX7_image_5 : decode cX7_image 5 = .ok (.getfield 22, 3) := by decide +kernel
theorem dX7_image_8 : decode cX7_image 8 = .ok (.invokevirtual 219, 3) := by decide +kernel
theorem dX7_image_11 : decode cX7_image 11 = .ok (.aload_n 0, 1) := by decide +kernel
theorem dX7_image_12 : decode cX7_image 12 = .ok (.iconst 1, 1) := by decide +kernel
theorem dX7_image_13 : decode cX7_image 13 = .ok (.putfield 60, 3) := by decide +kernel
theorem dX7_image_16 : decode cX7_image 16 = .ok (.aload_n 0, 1) := by decide +kernel
theorem dX7_image_17 : decode cX7_image 17 = .ok (.getfield 22, 3) := by decide +kernel
theorem dX7_image_20 : decode cX7_image 20 = .ok (.getfield 275, 3) := by decide +kernel
theorem dX7_image_23 : decode cX7_image 23 = .ok (.ireturn, 1) := by decide +kernel
theorem dX7_restore_0 : decode cX7_restore 0 = .ok (.aload_n 0, 1) := by decide +kernel
theorem dX7_restore_1 : decode cX7_restore 1 = .ok (.getfield 60, 3) := by decide +kernel
theorem dX7_restore_4 : decode cX7_restore 4 = .ok (.ifCond .ne 10, 3) := by decide +kernel
theorem dX7_restore_7 : decode cX7_restore 7 = .ok (.aload_n 0, 1) := by decide +kernel
theorem dX7_restore_8 : decode cX7_restore 8 = .ok (.bipush (-6), 2) := by decide +kernel
theorem dX7_restore_10 : decode cX7_restore 10 = .ok (.invokevirtual 73, 3) := by decide +kernel
theorem dX7_restore_13 : decode cX7_restore 13 = .ok (.ireturn, 1) := by decide +kernel
theorem dX7_restore_14 : decode cX7_restore 14 = .ok (.aload_n 0, 1) := by decide +kernel
theorem dX7_restore_15 : decode cX7_restore 15 = .ok (.getfield 22, 3) := by decide +kernel
theorem dX7_restore_18 : decode cX7_restore 18 = .ok (.aload_n 0, 1) := by decide +kernel
theorem dX7_restore_19 : decode cX7_restore 19 = .ok (.getfield 29, 3) := by decide +kernel
theorem dX7_restore_22 : decode cX7_restore 22 = .ok (.invokevirtual 219, 3) := by decide +kernel
theorem dX7_restore_25 : decode cX7_restore 25 = .ok (.iconst 0, 1) := by decide +kernel
theorem dX7_restore_26 : decode cX7_restore 26 = .ok (.istore_n 1, 1) := by decide +kernel
theorem dX7_restore_27 : decode cX7_restore 27 = .ok (.iload_n 1, 1) := by decide +kernel
theorem dX7_restore_28 : decode cX7_restore 28 = .ok (.bipush 8, 2) := by decide +kernel
theorem dX7_restore_30 : decode cX7_restore 30 = .ok (.if_icmp .ge 49, 3) := by decide +kernel
theorem dX7_restore_33 : decode cX7_restore 33 = .ok (.aload_n 0, 1) := by decide +kernel
theorem dX7_restore_34 : decode cX7_restore 34 = .ok (.getfield 11, 3) := by decide +kernel
theorem dX7_restore_37 : decode cX7_restore 37 = .ok (.iload_n 1, 1) := by decide +kernel
theorem dX7_restore_38 : decode cX7_restore 38 = .ok (.aaload, 1) := by decide +kernel
theorem dX7_restore_39 : decode cX7_restore 39 = .ok (.invokevirtual 96, 3) := by decide +kernel
theorem dX7_restore_42 : decode cX7_restore 42 = .ok (.ifCond .eq 31, 3) := by decide +kernel
theorem dX7_restore_45 : decode cX7_restore 45 = .ok (.aload_n 0, 1) := by decide +kernel
theorem dX7_restore_46 : decode cX7_restore 46 = .ok (.getfield 22, 3) := by decide +kernel
theorem dX7_restore_49 : decode cX7_restore 49 = .ok (.aload_n 0, 1) := by decide +kernel
theorem dX7_restore_50 : decode cX7_restore 50 = .ok (.getfield 11, 3) := by decide +kernel
theorem dX7_restore_53 : decode cX7_restore 53 = .ok (.iload_n 1, 1) := by decide +kernel
theorem dX7_restore_54 : decode cX7_restore 54 = .ok (.aaload, 1) := by decide +kernel
theorem dX7_restore_55 : decode cX7_restore 55 = .ok (.getfield 131, 3) := by decide +kernel
theorem dX7_restore_58 : decode cX7_restore 58 = .ok (.invokevirtual 121, 3) := by decide +kernel
theorem dX7_restore_61 : decode cX7_restore 61 = .ok (.ifCond .ne 12, 3) := by decide +kernel
theorem dX7_restore_64 : decode cX7_restore 64 = .ok (.aload_n 0, 1) := by decide +kernel
theorem dX7_restore_65 : decode cX7_restore 65 = .ok (.getfield 11, 3) := by decide +kernel
theorem dX7_restore_68 : decode cX7_restore 68 = .ok (.iload_n 1, 1) := by decide +kernel
theorem dX7_restore_69 : decode cX7_restore 69 = .ok (.aaload, 1) := by decide +kernel
theorem dX7_restore_70 : decode cX7_restore 70 = .ok (.invokevirtual 124, 3) := by decide +kernel
theorem dX7_restore_73 : decode cX7_restore 73 = .ok (.iinc 1 1, 3) := by decide +kernel
theorem dX7_restore_76 : decode cX7_restore 76 = .ok (.goto (-49), 3) := by decide +kernel
theorem dX7_restore_79 : decode cX7_restore 79 = .ok (.aload_n 0, 1) := by decide +kernel
theorem dX7_restore_80 : decode cX7_restore 80 = .ok (.getfield 22, 3) := by decide +kernel
theorem dX7_restore_83 : decode cX7_restore 83 = .ok (.getfield 275, 3) := by decide +kernel
theorem dX7_restore_86 : decode cX7_restore 86 = .ok (.ireturn, 1) := by decide +kernel
theorem dX7_status_0 : decode cX7_status 0 = .ok (.iload_n 1, 1) := by decide +kernel
theorem dX7_status_1 : decode cX7_status 1 = .ok (.bipush 11, 2) := by decide +kernel
theorem dX7_status_3 : decode cX7_status 3 = .ok (.bipush 17, 2) := by decide +kernel
theorem dX7_status_5 : decode cX7_status 5 = .ok (.invokestatic 77, 3) := by decide +kernel
theorem dX7_status_8 : decode cX7_status 8 = .ok (.ifCond .eq 13, 3) := by decide +kernel
theorem dX7_status_11 : decode cX7_status 11 = .ok (.aload_n 0, 1) := by decide +kernel
theorem dX7_status_12 : decode cX7_status 12 = .ok (.getfield 15, 3) := by decide +kernel
theorem dX7_status_15 : decode cX7_status 15 = .ok (.iload_n 1, 1) := by decide +kernel
theorem dX7_status_16 : decode cX7_status 16 = .ok (.bipush 10, 2) := by decide +kernel
theorem dX7_status_18 : decode cX7_status 18 = .ok (.isub, 1) := by decide +kernel
theorem dX7_status_19 : decode cX7_status 19 = .ok (.iaload, 1) := by decide +kernel
theorem dX7_status_20 : decode cX7_status 20 = .ok (.ireturn, 1) := by decide +kernel
theorem dX7_status_21 : decode cX7_status 21 = .ok (.iload_n 1, 1) := by decide +kernel
theorem dX7_status_22 : decode cX7_status 22 = .ok (.tableswitch 98 0 6 #[42, 50, 58, 66, 74, 82, 90], 42) := by decide +kernel
theorem dX7_status_64 : decode cX7_status 64 = .ok (.aload_n 0, 1) := by decide +kernel
theorem dX7_status_65 : decode cX7_status 65 = .ok (.getfield 22, 3) := by decide +kernel
theorem dX7_status_68 : decode cX7_status 68 = .ok (.getfield 275, 3) := by decide +kernel
theorem dX7_status_71 : decode cX7_status 71 = .ok (.ireturn, 1) := by decide +kernel
theorem dX7_status_72 : decode cX7_status 72 = .ok (.aload_n 0, 1) := by decide +kernel
theorem dX7_status_73 : decode cX7_status 73 = .ok (.getfield 22, 3) := by decide +kernel
theorem dX7_status_76 : decode cX7_status 76 = .ok (.getfield 262, 3) := by decide +kernel
theorem dX7_status_79 : decode cX7_status 79 = .ok (.ireturn, 1) := by decide +kernel
theorem dX7_status_80 : decode cX7_status 80 = .ok (.aload_n 0, 1) := by decide +kernel
theorem dX7_status_81 : decode cX7_status 81 = .ok (.getfield 22, 3) := by decide +kernel
theorem dX7_status_84 : decode cX7_status 84 = .ok (.invokevirtual 325, 3) := by decide +kernel
theorem dX7_status_87 : decode cX7_status 87 = .ok (.ireturn, 1) := by decide +kernel
theorem dX7_status_88 : decode cX7_status 88 = .ok (.aload_n 0, 1) := by decide +kernel
theorem dX7_status_89 : decode cX7_status 89 = .ok (.getfield 22, 3) := by decide +kernel
theorem dX7_status_92 : decode cX7_status 92 = .ok (.invokevirtual 339, 3) := by decide +kernel
theorem dX7_status_95 : decode cX7_status 95 = .ok (.ireturn, 1) := by decide +kernel
theorem dX7_status_96 : decode cX7_status 96 = .ok (.aload_n 0, 1) := by decide +kernel
theorem dX7_status_97 : decode cX7_status 97 = .ok (.getfield 22, 3) := by decide +kernel
theorem dX7_status_100 : decode cX7_status 100 = .ok (.getfield 342, 3) := by decide +kernel
theorem dX7_status_103 : decode cX7_status 103 = .ok (.ireturn, 1) := by decide +kernel
theorem dX7_status_104 : decode cX7_status 104 = .ok (.aload_n 0, 1) := by decide +kernel
theorem dX7_status_105 : decode cX7_status 105 = .ok (.getfield 22, 3) := by decide +kernel
theorem dX7_status_108 : decode cX7_status 108 = .ok (.getfield 326, 3) := by decide +kernel
theorem dX7_status_111 : decode cX7_status 111 = .ok (.ireturn, 1) := by decide +kernel
theorem dX7_status_112 : decode cX7_status 112 = .ok (.aload_n 0, 1) := by decide +kernel
theorem dX7_status_113 : decode cX7_status 113 = .ok (.getfield 56, 3) := by decide +kernel
theorem dX7_status_116 : decode cX7_status 116 = .ok (.getfield 345, 3) := by decide +kernel
theorem dX7_status_119 : decode cX7_status 119 = .ok (.ireturn, 1) := by decide +kernel
theorem dX7_status_120 : decode cX7_status 120 = .ok (.iconst (-1), 1) := by decide +kernel
theorem dX7_status_121 : decode cX7_status 121 = .ok (.ireturn, 1) := by decide +kernel
theorem dX7_refuse_0 : decode cX7_refuse 0 = .ok (.aload_n 0, 1) := by decide +kernel
theorem dX7_refuse_1 : decode cX7_refuse 1 = .ok (.getfield 15, 3) := by decide +kernel
theorem dX7_refuse_4 : decode cX7_refuse 4 = .ok (.iload_n 1, 1) := by decide +kernel
theorem dX7_refuse_5 : decode cX7_refuse 5 = .ok (.ineg, 1) := by decide +kernel
theorem dX7_refuse_6 : decode cX7_refuse 6 = .ok (.dup2, 1) := by decide +kernel
theorem dX7_refuse_7 : decode cX7_refuse 7 = .ok (.iaload, 1) := by decide +kernel
theorem dX7_refuse_8 : decode cX7_refuse 8 = .ok (.iconst 1, 1) := by decide +kernel
theorem dX7_refuse_9 : decode cX7_refuse 9 = .ok (.iadd, 1) := by decide +kernel
theorem dX7_refuse_10 : decode cX7_refuse 10 = .ok (.iastore, 1) := by decide +kernel
theorem dX7_refuse_11 : decode cX7_refuse 11 = .ok (.iload_n 1, 1) := by decide +kernel
theorem dX7_refuse_12 : decode cX7_refuse 12 = .ok (.ireturn, 1) := by decide +kernel
theorem dX7_refuseLower_0 : decode cX7_refuseLower 0 = .ok (.aload_n 0, 1) := by decide +kernel
theorem dX7_refuseLower_1 : decode cX7_refuseLower 1 = .ok (.iload_n 1, 1) := by decide +kernel
theorem dX7_refuseLower_2 : decode cX7_refuseLower 2 = .ok (.invokevirtual 73, 3) := by decide +kernel
theorem dX7_refuseLower_5 : decode cX7_refuseLower 5 = .ok (.bipush 10, 2) := by decide +kernel
theorem dX7_refuseLower_7 : decode cX7_refuseLower 7 = .ok (.isub, 1) := by decide +kernel
theorem dX7_refuseLower_8 : decode cX7_refuseLower 8 = .ok (.ireturn, 1) := by decide +kernel
theorem dX7_rowTrouble_0 : decode cX7_rowTrouble 0 = .ok (.iload_n 1, 1) := by decide +kernel
theorem dX7_rowTrouble_1 : decode cX7_rowTrouble 1 = .ok (.invokestatic 69, 3) := by decide +kernel
theorem dX7_rowTrouble_4 : decode cX7_rowTrouble 4 = .ok (.ifCond .ne 5, 3) := by decide +kernel
theorem dX7_rowTrouble_7 : decode cX7_rowTrouble 7 = .ok (.iconst (-1), 1) := by decide +kernel
theorem dX7_rowTrouble_8 : decode cX7_rowTrouble 8 = .ok (.ireturn, 1) := by decide +kernel
theorem dX7_rowTrouble_9 : decode cX7_rowTrouble 9 = .ok (.aload_n 0, 1) := by decide +kernel
theorem dX7_rowTrouble_10 : decode cX7_rowTrouble 10 = .ok (.getfield 11, 3) := by decide +kernel
theorem dX7_rowTrouble_13 : decode cX7_rowTrouble 13 = .ok (.iload_n 1, 1) := by decide +kernel
theorem dX7_rowTrouble_14 : decode cX7_rowTrouble 14 = .ok (.aaload, 1) := by decide +kernel
theorem dX7_rowTrouble_15 : decode cX7_rowTrouble 15 = .ok (.invokevirtual 96, 3) := by decide +kernel
theorem dX7_rowTrouble_18 : decode cX7_rowTrouble 18 = .ok (.ifCond .eq 6, 3) := by decide +kernel
theorem dX7_rowTrouble_21 : decode cX7_rowTrouble 21 = .ok (.bipush (-2), 2) := by decide +kernel
theorem dX7_rowTrouble_23 : decode cX7_rowTrouble 23 = .ok (.ireturn, 1) := by decide +kernel
theorem dX7_rowTrouble_24 : decode cX7_rowTrouble 24 = .ok (.aload_n 0, 1) := by decide +kernel
theorem dX7_rowTrouble_25 : decode cX7_rowTrouble 25 = .ok (.getfield 11, 3) := by decide +kernel
theorem dX7_rowTrouble_28 : decode cX7_rowTrouble 28 = .ok (.iload_n 1, 1) := by decide +kernel
theorem dX7_rowTrouble_29 : decode cX7_rowTrouble 29 = .ok (.aaload, 1) := by decide +kernel
theorem dX7_rowTrouble_30 : decode cX7_rowTrouble 30 = .ok (.invokevirtual 104, 3) := by decide +kernel
theorem dX7_rowTrouble_33 : decode cX7_rowTrouble 33 = .ok (.ifCond .eq 8, 3) := by decide +kernel
theorem dX7_rowTrouble_36 : decode cX7_rowTrouble 36 = .ok (.bipush (-3), 2) := by decide +kernel
theorem dX7_rowTrouble_38 : decode cX7_rowTrouble 38 = .ok (.goto 4, 3) := by decide +kernel
theorem dX7_rowTrouble_41 : decode cX7_rowTrouble 41 = .ok (.iconst 0, 1) := by decide +kernel
theorem dX7_rowTrouble_42 : decode cX7_rowTrouble 42 = .ok (.ireturn, 1) := by decide +kernel
theorem dX7_toldDayTrouble_0 : decode cX7_toldDayTrouble 0 = .ok (.aload_n 0, 1) := by decide +kernel
theorem dX7_toldDayTrouble_1 : decode cX7_toldDayTrouble 1 = .ok (.iload_n 1, 1) := by decide +kernel
theorem dX7_toldDayTrouble_2 : decode cX7_toldDayTrouble 2 = .ok (.invokevirtual 85, 3) := by decide +kernel
theorem dX7_toldDayTrouble_5 : decode cX7_toldDayTrouble 5 = .ok (.istore_n 2, 1) := by decide +kernel
theorem dX7_toldDayTrouble_6 : decode cX7_toldDayTrouble 6 = .ok (.iload_n 2, 1) := by decide +kernel
theorem dX7_toldDayTrouble_7 : decode cX7_toldDayTrouble 7 = .ok (.ifCond .eq 5, 3) := by decide +kernel
theorem dX7_toldDayTrouble_10 : decode cX7_toldDayTrouble 10 = .ok (.iload_n 2, 1) := by decide +kernel
theorem dX7_toldDayTrouble_11 : decode cX7_toldDayTrouble 11 = .ok (.ireturn, 1) := by decide +kernel
theorem dX7_toldDayTrouble_12 : decode cX7_toldDayTrouble 12 = .ok (.aload_n 0, 1) := by decide +kernel
theorem dX7_toldDayTrouble_13 : decode cX7_toldDayTrouble 13 = .ok (.getfield 11, 3) := by decide +kernel
theorem dX7_toldDayTrouble_16 : decode cX7_toldDayTrouble 16 = .ok (.iload_n 1, 1) := by decide +kernel
theorem dX7_toldDayTrouble_17 : decode cX7_toldDayTrouble 17 = .ok (.aaload, 1) := by decide +kernel
theorem dX7_toldDayTrouble_18 : decode cX7_toldDayTrouble 18 = .ok (.getfield 278, 3) := by decide +kernel
theorem dX7_toldDayTrouble_21 : decode cX7_toldDayTrouble 21 = .ok (.bipush 12, 2) := by decide +kernel
theorem dX7_toldDayTrouble_23 : decode cX7_toldDayTrouble 23 = .ok (.if_icmp .ge 8, 3) := by decide +kernel
theorem dX7_toldDayTrouble_26 : decode cX7_toldDayTrouble 26 = .ok (.bipush (-5), 2) := by decide +kernel
theorem dX7_toldDayTrouble_28 : decode cX7_toldDayTrouble 28 = .ok (.goto 4, 3) := by decide +kernel
theorem dX7_toldDayTrouble_31 : decode cX7_toldDayTrouble 31 = .ok (.iconst 0, 1) := by decide +kernel
theorem dX7_toldDayTrouble_32 : decode cX7_toldDayTrouble 32 = .ok (.ireturn, 1) := by decide +kernel
theorem dX7_isWithin_0 : decode cX7_isWithin 0 = .ok (.iload_n 0, 1) := by decide +kernel
theorem dX7_isWithin_1 : decode cX7_isWithin 1 = .ok (.iload_n 1, 1) := by decide +kernel
theorem dX7_isWithin_2 : decode cX7_isWithin 2 = .ok (.if_icmp .lt 12, 3) := by decide +kernel
theorem dX7_isWithin_5 : decode cX7_isWithin 5 = .ok (.iload_n 0, 1) := by decide +kernel
theorem dX7_isWithin_6 : decode cX7_isWithin 6 = .ok (.iload_n 2, 1) := by decide +kernel
theorem dX7_isWithin_7 : decode cX7_isWithin 7 = .ok (.if_icmp .gt 7, 3) := by decide +kernel
theorem dX7_isWithin_10 : decode cX7_isWithin 10 = .ok (.iconst 1, 1) := by decide +kernel
theorem dX7_isWithin_11 : decode cX7_isWithin 11 = .ok (.goto 4, 3) := by decide +kernel
theorem dX7_isWithin_14 : decode cX7_isWithin 14 = .ok (.iconst 0, 1) := by decide +kernel
theorem dX7_isWithin_15 : decode cX7_isWithin 15 = .ok (.ireturn, 1) := by decide +kernel
theorem dX7_isShelf_0 : decode cX7_isShelf 0 = .ok (.iload_n 0, 1) := by decide +kernel
theorem dX7_isShelf_1 : decode cX7_isShelf 1 = .ok (.iconst 0, 1) := by decide +kernel
theorem dX7_isShelf_2 : decode cX7_isShelf 2 = .ok (.bipush 7, 2) := by decide +kernel
theorem dX7_isShelf_4 : decode cX7_isShelf 4 = .ok (.invokestatic 77, 3) := by decide +kernel
theorem dX7_isShelf_7 : decode cX7_isShelf 7 = .ok (.ireturn, 1) := by decide +kernel
theorem dX7_isKind_0 : decode cX7_isKind 0 = .ok (.iload_n 0, 1) := by decide +kernel
theorem dX7_isKind_1 : decode cX7_isKind 1 = .ok (.iconst 0, 1) := by decide +kernel
theorem dX7_isKind_2 : decode cX7_isKind 2 = .ok (.bipush 6, 2) := by decide +kernel
theorem dX7_isKind_4 : decode cX7_isKind 4 = .ok (.invokestatic 77, 3) := by decide +kernel
theorem dX7_isKind_7 : decode cX7_isKind 7 = .ok (.ireturn, 1) := by decide +kernel
theorem dX7_isHour_0 : decode cX7_isHour 0 = .ok (.iload_n 0, 1) := by decide +kernel
theorem dX7_isHour_1 : decode cX7_isHour 1 = .ok (.iconst 0, 1) := by decide +kernel
theorem dX7_isHour_2 : decode cX7_isHour 2 = .ok (.bipush 11, 2) := by decide +kernel
theorem dX7_isHour_4 : decode cX7_isHour 4 = .ok (.invokestatic 77, 3) := by decide +kernel
theorem dX7_isHour_7 : decode cX7_isHour 7 = .ok (.ireturn, 1) := by decide +kernel
theorem dX7_isDigit_0 : decode cX7_isDigit 0 = .ok (.iload_n 0, 1) := by decide +kernel
theorem dX7_isDigit_1 : decode cX7_isDigit 1 = .ok (.iconst 0, 1) := by decide +kernel
theorem dX7_isDigit_2 : decode cX7_isDigit 2 = .ok (.bipush 9, 2) := by decide +kernel
theorem dX7_isDigit_4 : decode cX7_isDigit 4 = .ok (.invokestatic 77, 3) := by decide +kernel
theorem dX7_isDigit_7 : decode cX7_isDigit 7 = .ok (.ireturn, 1) := by decide +kernel
theorem dX7_areDaysAndHour_0 : decode cX7_areDaysAndHour 0 = .ok (.iload_n 0, 1) := by decide +kernel
theorem dX7_areDaysAndHour_1 : decode cX7_areDaysAndHour 1 = .ok (.iconst 0, 1) := by decide +kernel
theorem dX7_areDaysAndHour_2 : decode cX7_areDaysAndHour 2 = .ok (.bipush 60, 2) := by decide +kernel
theorem dX7_areDaysAndHour_4 : decode cX7_areDaysAndHour 4 = .ok (.invokestatic 77, 3) := by decide +kernel
theorem dX7_areDaysAndHour_7 : decode cX7_areDaysAndHour 7 = .ok (.ifCond .eq 14, 3) := by decide +kernel
theorem dX7_areDaysAndHour_10 : decode cX7_areDaysAndHour 10 = .ok (.iload_n 1, 1) := by decide +kernel
theorem dX7_areDaysAndHour_11 : decode cX7_areDaysAndHour 11 = .ok (.invokestatic 176, 3) := by decide +kernel
theorem dX7_areDaysAndHour_14 : decode cX7_areDaysAndHour 14 = .ok (.ifCond .eq 7, 3) := by decide +kernel
theorem dX7_areDaysAndHour_17 : decode cX7_areDaysAndHour 17 = .ok (.iconst 1, 1) := by decide +kernel
theorem dX7_areDaysAndHour_18 : decode cX7_areDaysAndHour 18 = .ok (.goto 4, 3) := by decide +kernel
theorem dX7_areDaysAndHour_21 : decode cX7_areDaysAndHour 21 = .ok (.iconst 0, 1) := by decide +kernel
theorem dX7_areDaysAndHour_22 : decode cX7_areDaysAndHour 22 = .ok (.ireturn, 1) := by decide +kernel
theorem dJ6_bitCount_0f7a4_0 : decode cJ6_bitCount_0f7a4 0 = .ok (.iload_n 0, 1) := by decide +kernel
theorem dJ6_bitCount_0f7a4_1 : decode cJ6_bitCount_0f7a4 1 = .ok (.iload_n 0, 1) := by decide +kernel
theorem dJ6_bitCount_0f7a4_2 : decode cJ6_bitCount_0f7a4 2 = .ok (.iconst 1, 1) := by decide +kernel
theorem dJ6_bitCount_0f7a4_3 : decode cJ6_bitCount_0f7a4 3 = .ok (.iushr, 1) := by decide +kernel
theorem dJ6_bitCount_0f7a4_4 : decode cJ6_bitCount_0f7a4 4 = .ok (.ldc_w 265, 3) := by decide +kernel
theorem dJ6_bitCount_0f7a4_7 : decode cJ6_bitCount_0f7a4 7 = .ok (.iand, 1) := by decide +kernel
theorem dJ6_bitCount_0f7a4_8 : decode cJ6_bitCount_0f7a4 8 = .ok (.isub, 1) := by decide +kernel
theorem dJ6_bitCount_0f7a4_9 : decode cJ6_bitCount_0f7a4 9 = .ok (.istore_n 0, 1) := by decide +kernel
theorem dJ6_bitCount_0f7a4_10 : decode cJ6_bitCount_0f7a4 10 = .ok (.iload_n 0, 1) := by decide +kernel
theorem dJ6_bitCount_0f7a4_11 : decode cJ6_bitCount_0f7a4 11 = .ok (.ldc_w 266, 3) := by decide +kernel
theorem dJ6_bitCount_0f7a4_14 : decode cJ6_bitCount_0f7a4 14 = .ok (.iand, 1) := by decide +kernel
theorem dJ6_bitCount_0f7a4_15 : decode cJ6_bitCount_0f7a4 15 = .ok (.iload_n 0, 1) := by decide +kernel
theorem dJ6_bitCount_0f7a4_16 : decode cJ6_bitCount_0f7a4 16 = .ok (.iconst 2, 1) := by decide +kernel
theorem dJ6_bitCount_0f7a4_17 : decode cJ6_bitCount_0f7a4 17 = .ok (.iushr, 1) := by decide +kernel
theorem dJ6_bitCount_0f7a4_18 : decode cJ6_bitCount_0f7a4 18 = .ok (.ldc_w 266, 3) := by decide +kernel
theorem dJ6_bitCount_0f7a4_21 : decode cJ6_bitCount_0f7a4 21 = .ok (.iand, 1) := by decide +kernel
theorem dJ6_bitCount_0f7a4_22 : decode cJ6_bitCount_0f7a4 22 = .ok (.iadd, 1) := by decide +kernel
theorem dJ6_bitCount_0f7a4_23 : decode cJ6_bitCount_0f7a4 23 = .ok (.istore_n 0, 1) := by decide +kernel
theorem dJ6_bitCount_0f7a4_24 : decode cJ6_bitCount_0f7a4 24 = .ok (.iload_n 0, 1) := by decide +kernel
theorem dJ6_bitCount_0f7a4_25 : decode cJ6_bitCount_0f7a4 25 = .ok (.iload_n 0, 1) := by decide +kernel
theorem dJ6_bitCount_0f7a4_26 : decode cJ6_bitCount_0f7a4 26 = .ok (.iconst 4, 1) := by decide +kernel
theorem dJ6_bitCount_0f7a4_27 : decode cJ6_bitCount_0f7a4 27 = .ok (.iushr, 1) := by decide +kernel
theorem dJ6_bitCount_0f7a4_28 : decode cJ6_bitCount_0f7a4 28 = .ok (.iadd, 1) := by decide +kernel
theorem dJ6_bitCount_0f7a4_29 : decode cJ6_bitCount_0f7a4 29 = .ok (.ldc_w 267, 3) := by decide +kernel
theorem dJ6_bitCount_0f7a4_32 : decode cJ6_bitCount_0f7a4 32 = .ok (.iand, 1) := by decide +kernel
theorem dJ6_bitCount_0f7a4_33 : decode cJ6_bitCount_0f7a4 33 = .ok (.istore_n 0, 1) := by decide +kernel
theorem dJ6_bitCount_0f7a4_34 : decode cJ6_bitCount_0f7a4 34 = .ok (.iload_n 0, 1) := by decide +kernel
theorem dJ6_bitCount_0f7a4_35 : decode cJ6_bitCount_0f7a4 35 = .ok (.iload_n 0, 1) := by decide +kernel
theorem dJ6_bitCount_0f7a4_36 : decode cJ6_bitCount_0f7a4 36 = .ok (.bipush 8, 2) := by decide +kernel
theorem dJ6_bitCount_0f7a4_38 : decode cJ6_bitCount_0f7a4 38 = .ok (.iushr, 1) := by decide +kernel
theorem dJ6_bitCount_0f7a4_39 : decode cJ6_bitCount_0f7a4 39 = .ok (.iadd, 1) := by decide +kernel
theorem dJ6_bitCount_0f7a4_40 : decode cJ6_bitCount_0f7a4 40 = .ok (.istore_n 0, 1) := by decide +kernel
theorem dJ6_bitCount_0f7a4_41 : decode cJ6_bitCount_0f7a4 41 = .ok (.iload_n 0, 1) := by decide +kernel
theorem dJ6_bitCount_0f7a4_42 : decode cJ6_bitCount_0f7a4 42 = .ok (.iload_n 0, 1) := by decide +kernel
theorem dJ6_bitCount_0f7a4_43 : decode cJ6_bitCount_0f7a4 43 = .ok (.bipush 16, 2) := by decide +kernel
theorem dJ6_bitCount_0f7a4_45 : decode cJ6_bitCount_0f7a4 45 = .ok (.iushr, 1) := by decide +kernel
theorem dJ6_bitCount_0f7a4_46 : decode cJ6_bitCount_0f7a4 46 = .ok (.iadd, 1) := by decide +kernel
theorem dJ6_bitCount_0f7a4_47 : decode cJ6_bitCount_0f7a4 47 = .ok (.istore_n 0, 1) := by decide +kernel
theorem dJ6_bitCount_0f7a4_48 : decode cJ6_bitCount_0f7a4 48 = .ok (.iload_n 0, 1) := by decide +kernel
theorem dJ6_bitCount_0f7a4_49 : decode cJ6_bitCount_0f7a4 49 = .ok (.bipush 63, 2) := by decide +kernel
theorem dJ6_bitCount_0f7a4_51 : decode cJ6_bitCount_0f7a4 51 = .ok (.iand, 1) := by decide +kernel
theorem dJ6_bitCount_0f7a4_52 : decode cJ6_bitCount_0f7a4 52 = .ok (.ireturn, 1) := by decide +kernel
theorem dJ9_max_7cf53_0 : decode cJ9_max_7cf53 0 = .ok (.iload_n 0, 1) := by decide +kernel
theorem dJ9_max_7cf53_1 : decode cJ9_max_7cf53 1 = .ok (.iload_n 1, 1) := by decide +kernel
theorem dJ9_max_7cf53_2 : decode cJ9_max_7cf53 2 = .ok (.if_icmp .lt 7, 3) := by decide +kernel
theorem dJ9_max_7cf53_5 : decode cJ9_max_7cf53 5 = .ok (.iload_n 0, 1) := by decide +kernel
theorem dJ9_max_7cf53_6 : decode cJ9_max_7cf53 6 = .ok (.goto 4, 3) := by decide +kernel
theorem dJ9_max_7cf53_9 : decode cJ9_max_7cf53 9 = .ok (.iload_n 1, 1) := by decide +kernel
theorem dJ9_max_7cf53_10 : decode cJ9_max_7cf53 10 = .ok (.ireturn, 1) := by decide +kernel
theorem dJ9_min_7cf53_0 : decode cJ9_min_7cf53 0 = .ok (.iload_n 0, 1) := by decide +kernel
theorem dJ9_min_7cf53_1 : decode cJ9_min_7cf53 1 = .ok (.iload_n 1, 1) := by decide +kernel
theorem dJ9_min_7cf53_2 : decode cJ9_min_7cf53 2 = .ok (.if_icmp .gt 7, 3) := by decide +kernel
theorem dJ9_min_7cf53_5 : decode cJ9_min_7cf53 5 = .ok (.iload_n 0, 1) := by decide +kernel
theorem dJ9_min_7cf53_6 : decode cJ9_min_7cf53 6 = .ok (.goto 4, 3) := by decide +kernel
theorem dJ9_min_7cf53_9 : decode cJ9_min_7cf53 9 = .ok (.iload_n 1, 1) := by decide +kernel
theorem dJ9_min_7cf53_10 : decode cJ9_min_7cf53 10 = .ok (.ireturn, 1) := by decide +kernel
theorem dJ0_length_8abf5_0 : decode cJ0_length_8abf5 0 = .ok (.aload_n 0, 1) := by decide +kernel
theorem dJ0_length_8abf5_1 : decode cJ0_length_8abf5 1 = .ok (.getfield 9, 3) := by decide +kernel
theorem dJ0_length_8abf5_4 : decode cJ0_length_8abf5 4 = .ok (.arraylength, 1) := by decide +kernel
theorem dJ0_length_8abf5_5 : decode cJ0_length_8abf5 5 = .ok (.aload_n 0, 1) := by decide +kernel
theorem dJ0_length_8abf5_6 : decode cJ0_length_8abf5 6 = .ok (.invokevirtual 335, 3) := by decide +kernel
theorem dJ0_length_8abf5_9 : decode cJ0_length_8abf5 9 = .ok (.ishr, 1) := by decide +kernel
theorem dJ0_length_8abf5_10 : decode cJ0_length_8abf5 10 = .ok (.ireturn, 1) := by decide +kernel
theorem dJ0_charAt_5068e_0 : decode cJ0_charAt_5068e 0 = .ok (.aload_n 0, 1) := by decide +kernel
theorem dJ0_charAt_5068e_1 : decode cJ0_charAt_5068e 1 = .ok (.invokevirtual 492, 3) := by decide +kernel
theorem dJ0_charAt_5068e_4 : decode cJ0_charAt_5068e 4 = .ok (.ifCond .eq 12, 3) := by decide +kernel
theorem dJ0_charAt_5068e_7 : decode cJ0_charAt_5068e 7 = .ok (.aload_n 0, 1) := by decide +kernel
theorem dJ0_charAt_5068e_8 : decode cJ0_charAt_5068e 8 = .ok (.getfield 9, 3) := by decide +kernel
theorem dJ0_charAt_5068e_11 : decode cJ0_charAt_5068e 11 = .ok (.iload_n 1, 1) := by decide +kernel
theorem dJ0_charAt_5068e_12 : decode cJ0_charAt_5068e 12 = .ok (.invokestatic 495, 3) := by decide +kernel
theorem dJ0_charAt_5068e_15 : decode cJ0_charAt_5068e 15 = .ok (.ireturn, 1) := by decide +kernel
theorem dJ0_charAt_5068e_16 : decode cJ0_charAt_5068e 16 = .ok (.aload_n 0, 1) := by decide +kernel
theorem dJ0_charAt_5068e_17 : decode cJ0_charAt_5068e 17 = .ok (.getfield 9, 3) := by decide +kernel
theorem dJ0_charAt_5068e_20 : decode cJ0_charAt_5068e 20 = .ok (.iload_n 1, 1) := by decide +kernel
theorem dJ0_charAt_5068e_21 : decode cJ0_charAt_5068e 21 = .ok (.invokestatic 498, 3) := by decide +kernel
theorem dJ0_charAt_5068e_24 : decode cJ0_charAt_5068e 24 = .ok (.ireturn, 1) := by decide +kernel
theorem dJ0_coder_7d493_0 : decode cJ0_coder_7d493 0 = .ok (.getstatic 38, 3) := by decide +kernel
theorem dJ0_coder_7d493_3 : decode cJ0_coder_7d493 3 = .ok (.ifCond .eq 10, 3) := by decide +kernel
theorem dJ0_coder_7d493_6 : decode cJ0_coder_7d493 6 = .ok (.aload_n 0, 1) := by decide +kernel
theorem dJ0_coder_7d493_7 : decode cJ0_coder_7d493 7 = .ok (.getfield 15, 3) := by decide +kernel
theorem dJ0_coder_7d493_10 : decode cJ0_coder_7d493 10 = .ok (.goto 4, 3) := by decide +kernel
theorem dJ0_coder_7d493_13 : decode cJ0_coder_7d493 13 = .ok (.iconst 1, 1) := by decide +kernel
theorem dJ0_coder_7d493_14 : decode cJ0_coder_7d493 14 = .ok (.ireturn, 1) := by decide +kernel
theorem dJ0_isLatin1_aae02_0 : decode cJ0_isLatin1_aae02 0 = .ok (.getstatic 38, 3) := by decide +kernel
theorem dJ0_isLatin1_aae02_3 : decode cJ0_isLatin1_aae02 3 = .ok (.ifCond .eq 14, 3) := by decide +kernel
theorem dJ0_isLatin1_aae02_6 : decode cJ0_isLatin1_aae02 6 = .ok (.aload_n 0, 1) := by decide +kernel
theorem dJ0_isLatin1_aae02_7 : decode cJ0_isLatin1_aae02 7 = .ok (.getfield 15, 3) := by decide +kernel
theorem dJ0_isLatin1_aae02_10 : decode cJ0_isLatin1_aae02 10 = .ok (.ifCond .ne 7, 3) := by decide +kernel
theorem dJ0_isLatin1_aae02_13 : decode cJ0_isLatin1_aae02 13 = .ok (.iconst 1, 1) := by decide +kernel
theorem dJ0_isLatin1_aae02_14 : decode cJ0_isLatin1_aae02 14 = .ok (.goto 4, 3) := by decide +kernel
theorem dJ0_isLatin1_aae02_17 : decode cJ0_isLatin1_aae02 17 = .ok (.iconst 0, 1) := by decide +kernel
theorem dJ0_isLatin1_aae02_18 : decode cJ0_isLatin1_aae02 18 = .ok (.ireturn, 1) := by decide +kernel
theorem dJ0_checkIndex_df160_0 : decode cJ0_checkIndex_df160 0 = .ok (.iload_n 0, 1) := by decide +kernel
theorem dJ0_checkIndex_df160_1 : decode cJ0_checkIndex_df160 1 = .ok (.iload_n 1, 1) := by decide +kernel
theorem dJ0_checkIndex_df160_2 : decode cJ0_checkIndex_df160 2 = .ok (.getstatic 1053, 3) := by decide +kernel
theorem dJ0_checkIndex_df160_5 : decode cJ0_checkIndex_df160 5 = .ok (.invokestatic 1059, 3) := by decide +kernel
theorem dJ0_checkIndex_df160_8 : decode cJ0_checkIndex_df160 8 = .ok (.pop, 1) := by decide +kernel
theorem dJ0_checkIndex_df160_9 : decode cJ0_checkIndex_df160 9 = .ok (.return_, 1) := by decide +kernel
theorem dJ1_charAt_3b067_0 : decode cJ1_charAt_3b067 0 = .ok (.iload_n 1, 1) := by decide +kernel
theorem dJ1_charAt_3b067_1 : decode cJ1_charAt_3b067 1 = .ok (.aload_n 0, 1) := by decide +kernel
theorem dJ1_charAt_3b067_2 : decode cJ1_charAt_3b067 2 = .ok (.arraylength, 1) := by decide +kernel
theorem dJ1_charAt_3b067_3 : decode cJ1_charAt_3b067 3 = .ok (.invokestatic 9, 3) := by decide +kernel
theorem dJ1_charAt_3b067_6 : decode cJ1_charAt_3b067 6 = .ok (.aload_n 0, 1) := by decide +kernel
theorem dJ1_charAt_3b067_7 : decode cJ1_charAt_3b067 7 = .ok (.iload_n 1, 1) := by decide +kernel
theorem dJ1_charAt_3b067_8 : decode cJ1_charAt_3b067 8 = .ok (.baload, 1) := by decide +kernel
theorem dJ1_charAt_3b067_9 : decode cJ1_charAt_3b067 9 = .ok (.sipush 255, 3) := by decide +kernel
theorem dJ1_charAt_3b067_12 : decode cJ1_charAt_3b067 12 = .ok (.iand, 1) := by decide +kernel
theorem dJ1_charAt_3b067_13 : decode cJ1_charAt_3b067 13 = .ok (.i2c, 1) := by decide +kernel
theorem dJ1_charAt_3b067_14 : decode cJ1_charAt_3b067 14 = .ok (.ireturn, 1) := by decide +kernel
theorem dJ2_getChar_3b067_0 : decode cJ2_getChar_3b067 0 = .ok (.getstatic 44, 3) := by decide +kernel
theorem dJ2_getChar_3b067_3 : decode cJ2_getChar_3b067 3 = .ok (.ifCond .ne 25, 3) := by decide +kernel
theorem dJ2_getChar_3b067_6 : decode cJ2_getChar_3b067 6 = .ok (.iload_n 1, 1) := by decide +kernel
theorem dJ2_getChar_3b067_7 : decode cJ2_getChar_3b067 7 = .ok (.ifCond .lt 11, 3) := by decide +kernel
theorem dJ2_getChar_3b067_10 : decode cJ2_getChar_3b067 10 = .ok (.iload_n 1, 1) := by decide +kernel
theorem dJ2_getChar_3b067_11 : decode cJ2_getChar_3b067 11 = .ok (.aload_n 0, 1) := by decide +kernel
theorem dJ2_getChar_3b067_12 : decode cJ2_getChar_3b067 12 = .ok (.invokestatic 48, 3) := by decide +kernel
theorem dJ2_getChar_3b067_15 : decode cJ2_getChar_3b067 15 = .ok (.if_icmp .lt 13, 3) := by decide +kernel
theorem dJ2_getChar_3b067_18 : decode cJ2_getChar_3b067 18 = .ok (.new 52, 3) := by decide +kernel
theorem dJ2_getChar_3b067_21 : decode cJ2_getChar_3b067 21 = .ok (.dup, 1) := by decide +kernel
theorem dJ2_getChar_3b067_22 : decode cJ2_getChar_3b067 22 = .ok (.ldc 54, 2) := by decide +kernel
theorem dJ2_getChar_3b067_24 : decode cJ2_getChar_3b067 24 = .ok (.invokespecial 56, 3) := by decide +kernel
theorem dJ2_getChar_3b067_27 : decode cJ2_getChar_3b067 27 = .ok (.athrow, 1) := by decide +kernel
theorem dJ2_getChar_3b067_28 : decode cJ2_getChar_3b067 28 = .ok (.iload_n 1, 1) := by decide +kernel
theorem dJ2_getChar_3b067_29 : decode cJ2_getChar_3b067 29 = .ok (.iconst 1, 1) := by decide +kernel
theorem dJ2_getChar_3b067_30 : decode cJ2_getChar_3b067 30 = .ok (.ishl, 1) := by decide +kernel
theorem dJ2_getChar_3b067_31 : decode cJ2_getChar_3b067 31 = .ok (.istore_n 1, 1) := by decide +kernel
theorem dJ2_getChar_3b067_32 : decode cJ2_getChar_3b067 32 = .ok (.aload_n 0, 1) := by decide +kernel
theorem dJ2_getChar_3b067_33 : decode cJ2_getChar_3b067 33 = .ok (.iload_n 1, 1) := by decide +kernel
theorem dJ2_getChar_3b067_34 : decode cJ2_getChar_3b067 34 = .ok (.iinc 1 1, 3) := by decide +kernel
theorem dJ2_getChar_3b067_37 : decode cJ2_getChar_3b067 37 = .ok (.baload, 1) := by decide +kernel
theorem dJ2_getChar_3b067_38 : decode cJ2_getChar_3b067 38 = .ok (.sipush 255, 3) := by decide +kernel
theorem dJ2_getChar_3b067_41 : decode cJ2_getChar_3b067 41 = .ok (.iand, 1) := by decide +kernel
theorem dJ2_getChar_3b067_42 : decode cJ2_getChar_3b067 42 = .ok (.getstatic 59, 3) := by decide +kernel
theorem dJ2_getChar_3b067_45 : decode cJ2_getChar_3b067 45 = .ok (.ishl, 1) := by decide +kernel
theorem dJ2_getChar_3b067_46 : decode cJ2_getChar_3b067 46 = .ok (.aload_n 0, 1) := by decide +kernel
theorem dJ2_getChar_3b067_47 : decode cJ2_getChar_3b067 47 = .ok (.iload_n 1, 1) := by decide +kernel
theorem dJ2_getChar_3b067_48 : decode cJ2_getChar_3b067 48 = .ok (.baload, 1) := by decide +kernel
theorem dJ2_getChar_3b067_49 : decode cJ2_getChar_3b067 49 = .ok (.sipush 255, 3) := by decide +kernel
theorem dJ2_getChar_3b067_52 : decode cJ2_getChar_3b067 52 = .ok (.iand, 1) := by decide +kernel
theorem dJ2_getChar_3b067_53 : decode cJ2_getChar_3b067 53 = .ok (.getstatic 63, 3) := by decide +kernel
theorem dJ2_getChar_3b067_56 : decode cJ2_getChar_3b067 56 = .ok (.ishl, 1) := by decide +kernel
theorem dJ2_getChar_3b067_57 : decode cJ2_getChar_3b067 57 = .ok (.ior, 1) := by decide +kernel
theorem dJ2_getChar_3b067_58 : decode cJ2_getChar_3b067 58 = .ok (.i2c, 1) := by decide +kernel
theorem dJ2_getChar_3b067_59 : decode cJ2_getChar_3b067 59 = .ok (.ireturn, 1) := by decide +kernel
theorem dJ2_length_9d52b_0 : decode cJ2_length_9d52b 0 = .ok (.aload_n 0, 1) := by decide +kernel
theorem dJ2_length_9d52b_1 : decode cJ2_length_9d52b 1 = .ok (.arraylength, 1) := by decide +kernel
theorem dJ2_length_9d52b_2 : decode cJ2_length_9d52b 2 = .ok (.iconst 1, 1) := by decide +kernel
theorem dJ2_length_9d52b_3 : decode cJ2_length_9d52b 3 = .ok (.ishr, 1) := by decide +kernel
theorem dJ2_length_9d52b_4 : decode cJ2_length_9d52b 4 = .ok (.ireturn, 1) := by decide +kernel
theorem dJ2_charAt_3b067_0 : decode cJ2_charAt_3b067 0 = .ok (.iload_n 1, 1) := by decide +kernel
theorem dJ2_charAt_3b067_1 : decode cJ2_charAt_3b067 1 = .ok (.aload_n 0, 1) := by decide +kernel
theorem dJ2_charAt_3b067_2 : decode cJ2_charAt_3b067 2 = .ok (.invokestatic 67, 3) := by decide +kernel
theorem dJ2_charAt_3b067_5 : decode cJ2_charAt_3b067 5 = .ok (.aload_n 0, 1) := by decide +kernel
theorem dJ2_charAt_3b067_6 : decode cJ2_charAt_3b067 6 = .ok (.iload_n 1, 1) := by decide +kernel
theorem dJ2_charAt_3b067_7 : decode cJ2_charAt_3b067 7 = .ok (.invokestatic 71, 3) := by decide +kernel
theorem dJ2_charAt_3b067_10 : decode cJ2_charAt_3b067 10 = .ok (.ireturn, 1) := by decide +kernel
theorem dJ2_checkIndex_2214a_0 : decode cJ2_checkIndex_2214a 0 = .ok (.iload_n 0, 1) := by decide +kernel
theorem dJ2_checkIndex_2214a_1 : decode cJ2_checkIndex_2214a 1 = .ok (.aload_n 1, 1) := by decide +kernel
theorem dJ2_checkIndex_2214a_2 : decode cJ2_checkIndex_2214a 2 = .ok (.invokestatic 48, 3) := by decide +kernel
theorem dJ2_checkIndex_2214a_5 : decode cJ2_checkIndex_2214a 5 = .ok (.invokestatic 414, 3) := by decide +kernel
theorem dJ2_checkIndex_2214a_8 : decode cJ2_checkIndex_2214a 8 = .ok (.return_, 1) := by decide +kernel
theorem dJ7_fill_d0a16_0 : decode cJ7_fill_d0a16 0 = .ok (.iconst 0, 1) := by decide +kernel
theorem dJ7_fill_d0a16_1 : decode cJ7_fill_d0a16 1 = .ok (.istore_n 3, 1) := by decide +kernel
theorem dJ7_fill_d0a16_2 : decode cJ7_fill_d0a16 2 = .ok (.aload_n 0, 1) := by decide +kernel
theorem dJ7_fill_d0a16_3 : decode cJ7_fill_d0a16 3 = .ok (.arraylength, 1) := by decide +kernel
theorem dJ7_fill_d0a16_4 : decode cJ7_fill_d0a16 4 = .ok (.istore 4, 2) := by decide +kernel
theorem dJ7_fill_d0a16_6 : decode cJ7_fill_d0a16 6 = .ok (.iload_n 3, 1) := by decide +kernel
theorem dJ7_fill_d0a16_7 : decode cJ7_fill_d0a16 7 = .ok (.iload 4, 2) := by decide +kernel
theorem dJ7_fill_d0a16_9 : decode cJ7_fill_d0a16 9 = .ok (.if_icmp .ge 13, 3) := by decide +kernel
theorem dJ7_fill_d0a16_12 : decode cJ7_fill_d0a16 12 = .ok (.aload_n 0, 1) := by decide +kernel
theorem dJ7_fill_d0a16_13 : decode cJ7_fill_d0a16 13 = .ok (.iload_n 3, 1) := by decide +kernel
theorem dJ7_fill_d0a16_14 : decode cJ7_fill_d0a16 14 = .ok (.lload_n 1, 1) := by decide +kernel
theorem dJ7_fill_d0a16_15 : decode cJ7_fill_d0a16 15 = .ok (.lastore, 1) := by decide +kernel
theorem dJ7_fill_d0a16_16 : decode cJ7_fill_d0a16 16 = .ok (.iinc 3 1, 3) := by decide +kernel
theorem dJ7_fill_d0a16_19 : decode cJ7_fill_d0a16 19 = .ok (.goto (-13), 3) := by decide +kernel
theorem dJ7_fill_d0a16_22 : decode cJ7_fill_d0a16 22 = .ok (.return_, 1) := by decide +kernel
theorem dJ7_fill_53178_0 : decode cJ7_fill_53178 0 = .ok (.iconst 0, 1) := by decide +kernel
theorem dJ7_fill_53178_1 : decode cJ7_fill_53178 1 = .ok (.istore_n 2, 1) := by decide +kernel
theorem dJ7_fill_53178_2 : decode cJ7_fill_53178 2 = .ok (.aload_n 0, 1) := by decide +kernel
theorem dJ7_fill_53178_3 : decode cJ7_fill_53178 3 = .ok (.arraylength, 1) := by decide +kernel
theorem dJ7_fill_53178_4 : decode cJ7_fill_53178 4 = .ok (.istore_n 3, 1) := by decide +kernel
theorem dJ7_fill_53178_5 : decode cJ7_fill_53178 5 = .ok (.iload_n 2, 1) := by decide +kernel
theorem dJ7_fill_53178_6 : decode cJ7_fill_53178 6 = .ok (.iload_n 3, 1) := by decide +kernel
theorem dJ7_fill_53178_7 : decode cJ7_fill_53178 7 = .ok (.if_icmp .ge 13, 3) := by decide +kernel
theorem dJ7_fill_53178_10 : decode cJ7_fill_53178 10 = .ok (.aload_n 0, 1) := by decide +kernel
theorem dJ7_fill_53178_11 : decode cJ7_fill_53178 11 = .ok (.iload_n 2, 1) := by decide +kernel
theorem dJ7_fill_53178_12 : decode cJ7_fill_53178 12 = .ok (.iload_n 1, 1) := by decide +kernel
theorem dJ7_fill_53178_13 : decode cJ7_fill_53178 13 = .ok (.iastore, 1) := by decide +kernel
theorem dJ7_fill_53178_14 : decode cJ7_fill_53178 14 = .ok (.iinc 2 1, 3) := by decide +kernel
theorem dJ7_fill_53178_17 : decode cJ7_fill_53178 17 = .ok (.goto (-12), 3) := by decide +kernel
theorem dJ7_fill_53178_20 : decode cJ7_fill_53178 20 = .ok (.return_, 1) := by decide +kernel
theorem dJ3_checkIndex_8e157_0 : decode cJ3_checkIndex_8e157 0 = .ok (.iload_n 0, 1) := by decide +kernel
theorem dJ3_checkIndex_8e157_1 : decode cJ3_checkIndex_8e157 1 = .ok (.ifCond .lt 8, 3) := by decide +kernel
theorem dJ3_checkIndex_8e157_4 : decode cJ3_checkIndex_8e157 4 = .ok (.iload_n 0, 1) := by decide +kernel
theorem dJ3_checkIndex_8e157_5 : decode cJ3_checkIndex_8e157 5 = .ok (.iload_n 1, 1) := by decide +kernel
theorem dJ3_checkIndex_8e157_6 : decode cJ3_checkIndex_8e157 6 = .ok (.if_icmp .lt 10, 3) := by decide +kernel
theorem dJ3_checkIndex_8e157_9 : decode cJ3_checkIndex_8e157 9 = .ok (.aload_n 2, 1) := by decide +kernel
theorem dJ3_checkIndex_8e157_10 : decode cJ3_checkIndex_8e157 10 = .ok (.iload_n 0, 1) := by decide +kernel
theorem dJ3_checkIndex_8e157_11 : decode cJ3_checkIndex_8e157 11 = .ok (.iload_n 1, 1) := by decide +kernel
theorem dJ3_checkIndex_8e157_12 : decode cJ3_checkIndex_8e157 12 = .ok (.invokestatic 95, 3) := by decide +kernel
theorem dJ3_checkIndex_8e157_15 : decode cJ3_checkIndex_8e157 15 = .ok (.athrow, 1) := by decide +kernel
theorem dJ3_checkIndex_8e157_16 : decode cJ3_checkIndex_8e157 16 = .ok (.iload_n 0, 1) := by decide +kernel
theorem dJ3_checkIndex_8e157_17 : decode cJ3_checkIndex_8e157 17 = .ok (.ireturn, 1) := by decide +kernel
