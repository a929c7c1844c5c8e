theorem mw_J5_init_d00df : MW yJ5_init_d00df cJ5_init_d00df 2 none 1 := ⟨gd 49 (by decide +kernel) rfl, gd 1649 (by decide +kernel) rfl, ⟨by decide, by decide⟩, by decide +kernel⟩
theorem mn_J5_init_d00df : Gd (.instanceMethod yJ5_init_d00df) := gd 1648 (by decide +kernel) rfl
theorem dj_J5_init_d00df_0 : decode cJ5_init_d00df 0 = .ok (.aload_n 0, 1) := dkAt dk_J5_init_d00df 0 rfl
theorem dj_J5_init_d00df_1 : decode cJ5_init_d00df 1 = .ok (.invokespecial 3, 3) := dkAt dk_J5_init_d00df 1 rfl
theorem dj_J5_init_d00df_4 : decode cJ5_init_d00df 4 = .ok (.getstatic 18, 3) := dkAt dk_J5_init_d00df 2 rfl
theorem dj_J5_init_d00df_7 : decode cJ5_init_d00df 7 = .ok (.ifCond .eq 18, 3) := dkAt dk_J5_init_d00df 3 rfl
theorem dj_J5_init_d00df_10 : decode cJ5_init_d00df 10 = .ok (.aload_n 0, 1) := dkAt dk_J5_init_d00df 4 rfl
theorem dj_J5_init_d00df_11 : decode cJ5_init_d00df 11 = .ok (.iload_n 1, 1) := dkAt dk_J5_init_d00df 5 rfl
theorem dj_J5_init_d00df_12 : decode cJ5_init_d00df 12 = .ok (.newarray .byte, 2) := dkAt dk_J5_init_d00df 6 rfl
theorem dj_J5_init_d00df_14 : decode cJ5_init_d00df 14 = .ok (.putfield 15, 3) := dkAt dk_J5_init_d00df 7 rfl
theorem dj_J5_init_d00df_17 : decode cJ5_init_d00df 17 = .ok (.aload_n 0, 1) := dkAt dk_J5_init_d00df 8 rfl
theorem dj_J5_init_d00df_18 : decode cJ5_init_d00df 18 = .ok (.iconst 0, 1) := dkAt dk_J5_init_d00df 9 rfl
theorem dj_J5_init_d00df_19 : decode cJ5_init_d00df 19 = .ok (.putfield 22, 3) := dkAt dk_J5_init_d00df 10 rfl
theorem dj_J5_init_d00df_22 : decode cJ5_init_d00df 22 = .ok (.goto 16, 3) := dkAt dk_J5_init_d00df 11 rfl
theorem dj_J5_init_d00df_25 : decode cJ5_init_d00df 25 = .ok (.aload_n 0, 1) := dkAt dk_J5_init_d00df 12 rfl
theorem dj_J5_init_d00df_26 : decode cJ5_init_d00df 26 = .ok (.iload_n 1, 1) := dkAt dk_J5_init_d00df 13 rfl
theorem dj_J5_init_d00df_27 : decode cJ5_init_d00df 27 = .ok (.invokestatic 26, 3) := dkAt dk_J5_init_d00df 14 rfl
theorem dj_J5_init_d00df_30 : decode cJ5_init_d00df 30 = .ok (.putfield 15, 3) := dkAt dk_J5_init_d00df 15 rfl
theorem dj_J5_init_d00df_33 : decode cJ5_init_d00df 33 = .ok (.aload_n 0, 1) := dkAt dk_J5_init_d00df 16 rfl
theorem dj_J5_init_d00df_34 : decode cJ5_init_d00df 34 = .ok (.iconst 1, 1) := dkAt dk_J5_init_d00df 17 rfl
theorem dj_J5_init_d00df_35 : decode cJ5_init_d00df 35 = .ok (.putfield 22, 3) := dkAt dk_J5_init_d00df 18 rfl
theorem dj_J5_init_d00df_38 : decode cJ5_init_d00df 38 = .ok (.return_, 1) := dkAt dk_J5_init_d00df 19 rfl
theorem mw_J5_init_a7421 : MW yJ5_init_a7421 cJ5_init_a7421 5 none 1 := ⟨gd 49 (by decide +kernel) rfl, gd 499 (by decide +kernel) rfl, ⟨by decide, by decide⟩, by decide +kernel⟩
theorem mn_J5_init_a7421 : Gd (.instanceMethod yJ5_init_a7421) := gd 498 (by decide +kernel) rfl
theorem dj_J5_init_a7421_0 : decode cJ5_init_a7421 0 = .ok (.aload_n 0, 1) := dkAt dk_J5_init_a7421 0 rfl
theorem dj_J5_init_a7421_1 : decode cJ5_init_a7421 1 = .ok (.invokespecial 3, 3) := dkAt dk_J5_init_a7421 1 rfl
theorem dj_J5_init_a7421_4 : decode cJ5_init_a7421 4 = .ok (.aload_n 1, 1) := dkAt dk_J5_init_a7421 2 rfl
theorem dj_J5_init_a7421_5 : decode cJ5_init_a7421 5 = .ok (.invokevirtual 32, 3) := dkAt dk_J5_init_a7421 3 rfl
theorem dj_J5_init_a7421_8 : decode cJ5_init_a7421 8 = .ok (.istore_n 2, 1) := dkAt dk_J5_init_a7421 4 rfl
theorem dj_J5_init_a7421_9 : decode cJ5_init_a7421 9 = .ok (.iload_n 2, 1) := dkAt dk_J5_init_a7421 5 rfl
theorem dj_J5_init_a7421_10 : decode cJ5_init_a7421 10 = .ok (.ldc 38, 2) := dkAt dk_J5_init_a7421 6 rfl
theorem dj_J5_init_a7421_12 : decode cJ5_init_a7421 12 = .ok (.if_icmp .ge 10, 3) := dkAt dk_J5_init_a7421 7 rfl
theorem dj_J5_init_a7421_15 : decode cJ5_init_a7421 15 = .ok (.iload_n 2, 1) := dkAt dk_J5_init_a7421 8 rfl
theorem dj_J5_init_a7421_16 : decode cJ5_init_a7421 16 = .ok (.bipush 16, 2) := dkAt dk_J5_init_a7421 9 rfl
theorem dj_J5_init_a7421_18 : decode cJ5_init_a7421 18 = .ok (.iadd, 1) := dkAt dk_J5_init_a7421 10 rfl
theorem dj_J5_init_a7421_19 : decode cJ5_init_a7421 19 = .ok (.goto 5, 3) := dkAt dk_J5_init_a7421 11 rfl
theorem dj_J5_init_a7421_22 : decode cJ5_init_a7421 22 = .ok (.ldc 39, 2) := dkAt dk_J5_init_a7421 12 rfl
theorem dj_J5_init_a7421_24 : decode cJ5_init_a7421 24 = .ok (.istore_n 3, 1) := dkAt dk_J5_init_a7421 13 rfl
theorem dj_J5_init_a7421_25 : decode cJ5_init_a7421 25 = .ok (.aload_n 1, 1) := dkAt dk_J5_init_a7421 14 rfl
theorem dj_J5_init_a7421_26 : decode cJ5_init_a7421 26 = .ok (.invokevirtual 40, 3) := dkAt dk_J5_init_a7421 15 rfl
theorem dj_J5_init_a7421_29 : decode cJ5_init_a7421 29 = .ok (.istore 4, 2) := dkAt dk_J5_init_a7421 16 rfl
theorem dj_J5_init_a7421_31 : decode cJ5_init_a7421 31 = .ok (.aload_n 0, 1) := dkAt dk_J5_init_a7421 17 rfl
theorem dj_J5_init_a7421_32 : decode cJ5_init_a7421 32 = .ok (.iload 4, 2) := dkAt dk_J5_init_a7421 18 rfl
theorem dj_J5_init_a7421_34 : decode cJ5_init_a7421 34 = .ok (.putfield 22, 3) := dkAt dk_J5_init_a7421 19 rfl
theorem dj_J5_init_a7421_37 : decode cJ5_init_a7421 37 = .ok (.aload_n 0, 1) := dkAt dk_J5_init_a7421 20 rfl
theorem dj_J5_init_a7421_38 : decode cJ5_init_a7421 38 = .ok (.iload 4, 2) := dkAt dk_J5_init_a7421 21 rfl
theorem dj_J5_init_a7421_40 : decode cJ5_init_a7421 40 = .ok (.ifCond .ne 9, 3) := dkAt dk_J5_init_a7421 22 rfl
theorem dj_J5_init_a7421_43 : decode cJ5_init_a7421 43 = .ok (.iload_n 3, 1) := dkAt dk_J5_init_a7421 23 rfl
theorem dj_J5_init_a7421_44 : decode cJ5_init_a7421 44 = .ok (.newarray .byte, 2) := dkAt dk_J5_init_a7421 24 rfl
theorem dj_J5_init_a7421_46 : decode cJ5_init_a7421 46 = .ok (.goto 7, 3) := dkAt dk_J5_init_a7421 25 rfl
theorem dj_J5_init_a7421_49 : decode cJ5_init_a7421 49 = .ok (.iload_n 3, 1) := dkAt dk_J5_init_a7421 26 rfl
theorem dj_J5_init_a7421_50 : decode cJ5_init_a7421 50 = .ok (.invokestatic 26, 3) := dkAt dk_J5_init_a7421 27 rfl
theorem dj_J5_init_a7421_53 : decode cJ5_init_a7421 53 = .ok (.putfield 15, 3) := dkAt dk_J5_init_a7421 28 rfl
theorem dj_J5_init_a7421_56 : decode cJ5_init_a7421 56 = .ok (.aload_n 0, 1) := dkAt dk_J5_init_a7421 29 rfl
theorem dj_J5_init_a7421_57 : decode cJ5_init_a7421 57 = .ok (.aload_n 1, 1) := dkAt dk_J5_init_a7421 30 rfl
theorem dj_J5_init_a7421_58 : decode cJ5_init_a7421 58 = .ok (.invokevirtual 43, 3) := dkAt dk_J5_init_a7421 31 rfl
theorem dj_J5_init_a7421_61 : decode cJ5_init_a7421 61 = .ok (.pop, 1) := dkAt dk_J5_init_a7421 32 rfl
theorem dj_J5_init_a7421_62 : decode cJ5_init_a7421 62 = .ok (.return_, 1) := dkAt dk_J5_init_a7421 33 rfl
theorem mw_J5_length_8abf5 : MW yJ5_length_8abf5 cJ5_length_8abf5 1 (some .int) 0 := ⟨gd 49 (by decide +kernel) rfl, gd 1631 (by decide +kernel) rfl, ⟨by decide, by decide⟩, by decide +kernel⟩
theorem mn_J5_length_8abf5 : Gd (.instanceMethod yJ5_length_8abf5) := gd 1625 (by decide +kernel) rfl
theorem dj_J5_length_8abf5_0 : decode cJ5_length_8abf5 0 = .ok (.aload_n 0, 1) := dkAt dk_J5_length_8abf5 0 rfl
theorem dj_J5_length_8abf5_1 : decode cJ5_length_8abf5 1 = .ok (.getfield 79, 3) := dkAt dk_J5_length_8abf5 1 rfl
theorem dj_J5_length_8abf5_4 : decode cJ5_length_8abf5 4 = .ok (.ireturn, 1) := dkAt dk_J5_length_8abf5 2 rfl
theorem mw_J5_ensureCapacityInternal_d00df : MW yJ5_ensureCapacityInternal_d00df cJ5_ensureCapacityInternal_d00df 3 none 1 := ⟨gd 49 (by decide +kernel) rfl, gd 541 (by decide +kernel) rfl, ⟨by decide, by decide⟩, by decide +kernel⟩
theorem mn_J5_ensureCapacityInternal_d00df : Gd (.instanceMethod yJ5_ensureCapacityInternal_d00df) := gd 540 (by decide +kernel) rfl
theorem dj_J5_ensureCapacityInternal_d00df_0 : decode cJ5_ensureCapacityInternal_d00df 0 = .ok (.aload_n 0, 1) := dkAt dk_J5_ensureCapacityInternal_d00df 0 rfl
theorem dj_J5_ensureCapacityInternal_d00df_1 : decode cJ5_ensureCapacityInternal_d00df 1 = .ok (.getfield 15, 3) := dkAt dk_J5_ensureCapacityInternal_d00df 1 rfl
theorem dj_J5_ensureCapacityInternal_d00df_4 : decode cJ5_ensureCapacityInternal_d00df 4 = .ok (.arraylength, 1) := dkAt dk_J5_ensureCapacityInternal_d00df 2 rfl
theorem dj_J5_ensureCapacityInternal_d00df_5 : decode cJ5_ensureCapacityInternal_d00df 5 = .ok (.aload_n 0, 1) := dkAt dk_J5_ensureCapacityInternal_d00df 3 rfl
theorem dj_J5_ensureCapacityInternal_d00df_6 : decode cJ5_ensureCapacityInternal_d00df 6 = .ok (.getfield 22, 3) := dkAt dk_J5_ensureCapacityInternal_d00df 4 rfl
theorem dj_J5_ensureCapacityInternal_d00df_9 : decode cJ5_ensureCapacityInternal_d00df 9 = .ok (.ishr, 1) := dkAt dk_J5_ensureCapacityInternal_d00df 5 rfl
theorem dj_J5_ensureCapacityInternal_d00df_10 : decode cJ5_ensureCapacityInternal_d00df 10 = .ok (.istore_n 2, 1) := dkAt dk_J5_ensureCapacityInternal_d00df 6 rfl
theorem dj_J5_ensureCapacityInternal_d00df_11 : decode cJ5_ensureCapacityInternal_d00df 11 = .ok (.iload_n 1, 1) := dkAt dk_J5_ensureCapacityInternal_d00df 7 rfl
theorem dj_J5_ensureCapacityInternal_d00df_12 : decode cJ5_ensureCapacityInternal_d00df 12 = .ok (.iload_n 2, 1) := dkAt dk_J5_ensureCapacityInternal_d00df 8 rfl
theorem dj_J5_ensureCapacityInternal_d00df_13 : decode cJ5_ensureCapacityInternal_d00df 13 = .ok (.isub, 1) := dkAt dk_J5_ensureCapacityInternal_d00df 9 rfl
theorem dj_J5_ensureCapacityInternal_d00df_14 : decode cJ5_ensureCapacityInternal_d00df 14 = .ok (.ifCond .le 24, 3) := dkAt dk_J5_ensureCapacityInternal_d00df 10 rfl
theorem dj_J5_ensureCapacityInternal_d00df_17 : decode cJ5_ensureCapacityInternal_d00df 17 = .ok (.aload_n 0, 1) := dkAt dk_J5_ensureCapacityInternal_d00df 11 rfl
theorem dj_J5_ensureCapacityInternal_d00df_18 : decode cJ5_ensureCapacityInternal_d00df 18 = .ok (.aload_n 0, 1) := dkAt dk_J5_ensureCapacityInternal_d00df 12 rfl
theorem dj_J5_ensureCapacityInternal_d00df_19 : decode cJ5_ensureCapacityInternal_d00df 19 = .ok (.getfield 15, 3) := dkAt dk_J5_ensureCapacityInternal_d00df 13 rfl
theorem dj_J5_ensureCapacityInternal_d00df_22 : decode cJ5_ensureCapacityInternal_d00df 22 = .ok (.aload_n 0, 1) := dkAt dk_J5_ensureCapacityInternal_d00df 14 rfl
theorem dj_J5_ensureCapacityInternal_d00df_23 : decode cJ5_ensureCapacityInternal_d00df 23 = .ok (.iload_n 1, 1) := dkAt dk_J5_ensureCapacityInternal_d00df 15 rfl
theorem dj_J5_ensureCapacityInternal_d00df_24 : decode cJ5_ensureCapacityInternal_d00df 24 = .ok (.invokevirtual 104, 3) := dkAt dk_J5_ensureCapacityInternal_d00df 16 rfl
theorem dj_J5_ensureCapacityInternal_d00df_27 : decode cJ5_ensureCapacityInternal_d00df 27 = .ok (.aload_n 0, 1) := dkAt dk_J5_ensureCapacityInternal_d00df 17 rfl
theorem dj_J5_ensureCapacityInternal_d00df_28 : decode cJ5_ensureCapacityInternal_d00df 28 = .ok (.getfield 22, 3) := dkAt dk_J5_ensureCapacityInternal_d00df 18 rfl
theorem dj_J5_ensureCapacityInternal_d00df_31 : decode cJ5_ensureCapacityInternal_d00df 31 = .ok (.ishl, 1) := dkAt dk_J5_ensureCapacityInternal_d00df 19 rfl
theorem dj_J5_ensureCapacityInternal_d00df_32 : decode cJ5_ensureCapacityInternal_d00df 32 = .ok (.invokestatic 108, 3) := dkAt dk_J5_ensureCapacityInternal_d00df 20 rfl
theorem dj_J5_ensureCapacityInternal_d00df_35 : decode cJ5_ensureCapacityInternal_d00df 35 = .ok (.putfield 15, 3) := dkAt dk_J5_ensureCapacityInternal_d00df 21 rfl
theorem dj_J5_ensureCapacityInternal_d00df_38 : decode cJ5_ensureCapacityInternal_d00df 38 = .ok (.return_, 1) := dkAt dk_J5_ensureCapacityInternal_d00df 22 rfl
theorem mw_J5_newCapacity_0f7a4 : MW yJ5_newCapacity_0f7a4 cJ5_newCapacity_0f7a4 6 (some .int) 1 := ⟨gd 49 (by decide +kernel) rfl, gd 545 (by decide +kernel) rfl, ⟨by decide, by decide⟩, by decide +kernel⟩
theorem mn_J5_newCapacity_0f7a4 : Gd (.instanceMethod yJ5_newCapacity_0f7a4) := gd 544 (by decide +kernel) rfl
theorem dj_J5_newCapacity_0f7a4_0 : decode cJ5_newCapacity_0f7a4 0 = .ok (.aload_n 0, 1) := dkAt dk_J5_newCapacity_0f7a4 0 rfl
theorem dj_J5_newCapacity_0f7a4_1 : decode cJ5_newCapacity_0f7a4 1 = .ok (.getfield 15, 3) := dkAt dk_J5_newCapacity_0f7a4 1 rfl
theorem dj_J5_newCapacity_0f7a4_4 : decode cJ5_newCapacity_0f7a4 4 = .ok (.arraylength, 1) := dkAt dk_J5_newCapacity_0f7a4 2 rfl
theorem dj_J5_newCapacity_0f7a4_5 : decode cJ5_newCapacity_0f7a4 5 = .ok (.istore_n 2, 1) := dkAt dk_J5_newCapacity_0f7a4 3 rfl
theorem dj_J5_newCapacity_0f7a4_6 : decode cJ5_newCapacity_0f7a4 6 = .ok (.iload_n 1, 1) := dkAt dk_J5_newCapacity_0f7a4 4 rfl
theorem dj_J5_newCapacity_0f7a4_7 : decode cJ5_newCapacity_0f7a4 7 = .ok (.aload_n 0, 1) := dkAt dk_J5_newCapacity_0f7a4 5 rfl
theorem dj_J5_newCapacity_0f7a4_8 : decode cJ5_newCapacity_0f7a4 8 = .ok (.getfield 22, 3) := dkAt dk_J5_newCapacity_0f7a4 6 rfl
theorem dj_J5_newCapacity_0f7a4_11 : decode cJ5_newCapacity_0f7a4 11 = .ok (.ishl, 1) := dkAt dk_J5_newCapacity_0f7a4 7 rfl
theorem dj_J5_newCapacity_0f7a4_12 : decode cJ5_newCapacity_0f7a4 12 = .ok (.istore_n 3, 1) := dkAt dk_J5_newCapacity_0f7a4 8 rfl
theorem dj_J5_newCapacity_0f7a4_13 : decode cJ5_newCapacity_0f7a4 13 = .ok (.iload_n 3, 1) := dkAt dk_J5_newCapacity_0f7a4 9 rfl
theorem dj_J5_newCapacity_0f7a4_14 : decode cJ5_newCapacity_0f7a4 14 = .ok (.iload_n 2, 1) := dkAt dk_J5_newCapacity_0f7a4 10 rfl
theorem dj_J5_newCapacity_0f7a4_15 : decode cJ5_newCapacity_0f7a4 15 = .ok (.isub, 1) := dkAt dk_J5_newCapacity_0f7a4 11 rfl
theorem dj_J5_newCapacity_0f7a4_16 : decode cJ5_newCapacity_0f7a4 16 = .ok (.istore 4, 2) := dkAt dk_J5_newCapacity_0f7a4 12 rfl
theorem dj_J5_newCapacity_0f7a4_18 : decode cJ5_newCapacity_0f7a4 18 = .ok (.iload_n 2, 1) := dkAt dk_J5_newCapacity_0f7a4 13 rfl
theorem dj_J5_newCapacity_0f7a4_19 : decode cJ5_newCapacity_0f7a4 19 = .ok (.iload 4, 2) := dkAt dk_J5_newCapacity_0f7a4 14 rfl
theorem dj_J5_newCapacity_0f7a4_21 : decode cJ5_newCapacity_0f7a4 21 = .ok (.iload_n 2, 1) := dkAt dk_J5_newCapacity_0f7a4 15 rfl
theorem dj_J5_newCapacity_0f7a4_22 : decode cJ5_newCapacity_0f7a4 22 = .ok (.iconst 2, 1) := dkAt dk_J5_newCapacity_0f7a4 16 rfl
theorem dj_J5_newCapacity_0f7a4_23 : decode cJ5_newCapacity_0f7a4 23 = .ok (.aload_n 0, 1) := dkAt dk_J5_newCapacity_0f7a4 17 rfl
theorem dj_J5_newCapacity_0f7a4_24 : decode cJ5_newCapacity_0f7a4 24 = .ok (.getfield 22, 3) := dkAt dk_J5_newCapacity_0f7a4 18 rfl
theorem dj_J5_newCapacity_0f7a4_27 : decode cJ5_newCapacity_0f7a4 27 = .ok (.ishl, 1) := dkAt dk_J5_newCapacity_0f7a4 19 rfl
theorem dj_J5_newCapacity_0f7a4_28 : decode cJ5_newCapacity_0f7a4 28 = .ok (.iadd, 1) := dkAt dk_J5_newCapacity_0f7a4 20 rfl
theorem dj_J5_newCapacity_0f7a4_29 : decode cJ5_newCapacity_0f7a4 29 = .ok (.invokestatic 114, 3) := dkAt dk_J5_newCapacity_0f7a4 21 rfl
theorem dj_J5_newCapacity_0f7a4_32 : decode cJ5_newCapacity_0f7a4 32 = .ok (.istore 5, 2) := dkAt dk_J5_newCapacity_0f7a4 22 rfl
theorem dj_J5_newCapacity_0f7a4_34 : decode cJ5_newCapacity_0f7a4 34 = .ok (.iload 5, 2) := dkAt dk_J5_newCapacity_0f7a4 23 rfl
theorem dj_J5_newCapacity_0f7a4_36 : decode cJ5_newCapacity_0f7a4 36 = .ok (.ldc 39, 2) := dkAt dk_J5_newCapacity_0f7a4 24 rfl
theorem dj_J5_newCapacity_0f7a4_38 : decode cJ5_newCapacity_0f7a4 38 = .ok (.if_icmp .ne 13, 3) := dkAt dk_J5_newCapacity_0f7a4 25 rfl
theorem dj_J5_newCapacity_0f7a4_41 : decode cJ5_newCapacity_0f7a4 41 = .ok (.new 120, 3) := dkAt dk_J5_newCapacity_0f7a4 26 rfl
theorem dj_J5_newCapacity_0f7a4_44 : decode cJ5_newCapacity_0f7a4 44 = .ok (.dup, 1) := dkAt dk_J5_newCapacity_0f7a4 27 rfl
theorem dj_J5_newCapacity_0f7a4_45 : decode cJ5_newCapacity_0f7a4 45 = .ok (.ldc 122, 2) := dkAt dk_J5_newCapacity_0f7a4 28 rfl
theorem dj_J5_newCapacity_0f7a4_47 : decode cJ5_newCapacity_0f7a4 47 = .ok (.invokespecial 124, 3) := dkAt dk_J5_newCapacity_0f7a4 29 rfl
theorem dj_J5_newCapacity_0f7a4_50 : decode cJ5_newCapacity_0f7a4 50 = .ok (.athrow, 1) := dkAt dk_J5_newCapacity_0f7a4 30 rfl
theorem dj_J5_newCapacity_0f7a4_51 : decode cJ5_newCapacity_0f7a4 51 = .ok (.iload 5, 2) := dkAt dk_J5_newCapacity_0f7a4 31 rfl
theorem dj_J5_newCapacity_0f7a4_53 : decode cJ5_newCapacity_0f7a4 53 = .ok (.aload_n 0, 1) := dkAt dk_J5_newCapacity_0f7a4 32 rfl
theorem dj_J5_newCapacity_0f7a4_54 : decode cJ5_newCapacity_0f7a4 54 = .ok (.getfield 22, 3) := dkAt dk_J5_newCapacity_0f7a4 33 rfl
theorem dj_J5_newCapacity_0f7a4_57 : decode cJ5_newCapacity_0f7a4 57 = .ok (.ishr, 1) := dkAt dk_J5_newCapacity_0f7a4 34 rfl
theorem dj_J5_newCapacity_0f7a4_58 : decode cJ5_newCapacity_0f7a4 58 = .ok (.ireturn, 1) := dkAt dk_J5_newCapacity_0f7a4 35 rfl
theorem mw_J5_inflate_da8c8 : MW yJ5_inflate_da8c8 cJ5_inflate_da8c8 2 none 0 := ⟨gd 49 (by decide +kernel) rfl, gd 615 (by decide +kernel) rfl, ⟨by decide, by decide⟩, by decide +kernel⟩
theorem mn_J5_inflate_da8c8 : Gd (.instanceMethod yJ5_inflate_da8c8) := gd 614 (by decide +kernel) rfl
theorem dj_J5_inflate_da8c8_0 : decode cJ5_inflate_da8c8 0 = .ok (.aload_n 0, 1) := dkAt dk_J5_inflate_da8c8 0 rfl
theorem dj_J5_inflate_da8c8_1 : decode cJ5_inflate_da8c8 1 = .ok (.invokevirtual 83, 3) := dkAt dk_J5_inflate_da8c8 1 rfl
theorem dj_J5_inflate_da8c8_4 : decode cJ5_inflate_da8c8 4 = .ok (.ifCond .ne 4, 3) := dkAt dk_J5_inflate_da8c8 2 rfl
theorem dj_J5_inflate_da8c8_7 : decode cJ5_inflate_da8c8 7 = .ok (.return_, 1) := dkAt dk_J5_inflate_da8c8 3 rfl
theorem dj_J5_inflate_da8c8_8 : decode cJ5_inflate_da8c8 8 = .ok (.aload_n 0, 1) := dkAt dk_J5_inflate_da8c8 4 rfl
theorem dj_J5_inflate_da8c8_9 : decode cJ5_inflate_da8c8 9 = .ok (.getfield 15, 3) := dkAt dk_J5_inflate_da8c8 5 rfl
theorem dj_J5_inflate_da8c8_12 : decode cJ5_inflate_da8c8 12 = .ok (.arraylength, 1) := dkAt dk_J5_inflate_da8c8 6 rfl
theorem dj_J5_inflate_da8c8_13 : decode cJ5_inflate_da8c8 13 = .ok (.invokestatic 26, 3) := dkAt dk_J5_inflate_da8c8 7 rfl
theorem dj_J5_inflate_da8c8_16 : decode cJ5_inflate_da8c8 16 = .ok (.astore_n 1, 1) := dkAt dk_J5_inflate_da8c8 8 rfl
theorem dj_J5_inflate_da8c8_17 : decode cJ5_inflate_da8c8 17 = .ok (.aload_n 0, 1) := dkAt dk_J5_inflate_da8c8 9 rfl
theorem dj_J5_inflate_da8c8_18 : decode cJ5_inflate_da8c8 18 = .ok (.getfield 15, 3) := dkAt dk_J5_inflate_da8c8 10 rfl
theorem dj_J5_inflate_da8c8_21 : decode cJ5_inflate_da8c8 21 = .ok (.iconst 0, 1) := dkAt dk_J5_inflate_da8c8 11 rfl
theorem dj_J5_inflate_da8c8_22 : decode cJ5_inflate_da8c8 22 = .ok (.aload_n 1, 1) := dkAt dk_J5_inflate_da8c8 12 rfl
theorem dj_J5_inflate_da8c8_23 : decode cJ5_inflate_da8c8 23 = .ok (.iconst 0, 1) := dkAt dk_J5_inflate_da8c8 13 rfl
theorem dj_J5_inflate_da8c8_24 : decode cJ5_inflate_da8c8 24 = .ok (.aload_n 0, 1) := dkAt dk_J5_inflate_da8c8 14 rfl
theorem dj_J5_inflate_da8c8_25 : decode cJ5_inflate_da8c8 25 = .ok (.getfield 79, 3) := dkAt dk_J5_inflate_da8c8 15 rfl
theorem dj_J5_inflate_da8c8_28 : decode cJ5_inflate_da8c8 28 = .ok (.invokestatic 125, 3) := dkAt dk_J5_inflate_da8c8 16 rfl
theorem dj_J5_inflate_da8c8_31 : decode cJ5_inflate_da8c8 31 = .ok (.aload_n 0, 1) := dkAt dk_J5_inflate_da8c8 17 rfl
theorem dj_J5_inflate_da8c8_32 : decode cJ5_inflate_da8c8 32 = .ok (.aload_n 1, 1) := dkAt dk_J5_inflate_da8c8 18 rfl
theorem dj_J5_inflate_da8c8_33 : decode cJ5_inflate_da8c8 33 = .ok (.putfield 15, 3) := dkAt dk_J5_inflate_da8c8 19 rfl
theorem dj_J5_inflate_da8c8_36 : decode cJ5_inflate_da8c8 36 = .ok (.aload_n 0, 1) := dkAt dk_J5_inflate_da8c8 20 rfl
theorem dj_J5_inflate_da8c8_37 : decode cJ5_inflate_da8c8 37 = .ok (.iconst 1, 1) := dkAt dk_J5_inflate_da8c8 21 rfl
theorem dj_J5_inflate_da8c8_38 : decode cJ5_inflate_da8c8 38 = .ok (.putfield 22, 3) := dkAt dk_J5_inflate_da8c8 22 rfl
theorem dj_J5_inflate_da8c8_41 : decode cJ5_inflate_da8c8 41 = .ok (.return_, 1) := dkAt dk_J5_inflate_da8c8 23 rfl
theorem mw_J5_append_cf1ce : MW yJ5_append_cf1ce cJ5_append_cf1ce 3 (some (.object "java/lang/AbstractStringBuilder")) 1 := ⟨gd 49 (by decide +kernel) rfl, gd 533 (by decide +kernel) rfl, ⟨by decide, by decide⟩, by decide +kernel⟩
theorem mn_J5_append_cf1ce : Gd (.instanceMethod yJ5_append_cf1ce) := gd 522 (by decide +kernel) rfl
theorem dj_J5_append_cf1ce_0 : decode cJ5_append_cf1ce 0 = .ok (.aload_n 1, 1) := dkAt dk_J5_append_cf1ce 0 rfl
theorem dj_J5_append_cf1ce_1 : decode cJ5_append_cf1ce 1 = .ok (.ifnonnull 8, 3) := dkAt dk_J5_append_cf1ce 1 rfl
theorem dj_J5_append_cf1ce_4 : decode cJ5_append_cf1ce 4 = .ok (.aload_n 0, 1) := dkAt dk_J5_append_cf1ce 2 rfl
theorem dj_J5_append_cf1ce_5 : decode cJ5_append_cf1ce 5 = .ok (.invokevirtual 204, 3) := dkAt dk_J5_append_cf1ce 3 rfl
theorem dj_J5_append_cf1ce_8 : decode cJ5_append_cf1ce 8 = .ok (.areturn, 1) := dkAt dk_J5_append_cf1ce 4 rfl
theorem dj_J5_append_cf1ce_9 : decode cJ5_append_cf1ce 9 = .ok (.aload_n 1, 1) := dkAt dk_J5_append_cf1ce 5 rfl
theorem dj_J5_append_cf1ce_10 : decode cJ5_append_cf1ce 10 = .ok (.invokevirtual 32, 3) := dkAt dk_J5_append_cf1ce 6 rfl
theorem dj_J5_append_cf1ce_13 : decode cJ5_append_cf1ce 13 = .ok (.istore_n 2, 1) := dkAt dk_J5_append_cf1ce 7 rfl
theorem dj_J5_append_cf1ce_14 : decode cJ5_append_cf1ce 14 = .ok (.aload_n 0, 1) := dkAt dk_J5_append_cf1ce 8 rfl
theorem dj_J5_append_cf1ce_15 : decode cJ5_append_cf1ce 15 = .ok (.aload_n 0, 1) := dkAt dk_J5_append_cf1ce 9 rfl
theorem dj_J5_append_cf1ce_16 : decode cJ5_append_cf1ce 16 = .ok (.getfield 79, 3) := dkAt dk_J5_append_cf1ce 10 rfl
theorem dj_J5_append_cf1ce_19 : decode cJ5_append_cf1ce 19 = .ok (.iload_n 2, 1) := dkAt dk_J5_append_cf1ce 11 rfl
theorem dj_J5_append_cf1ce_20 : decode cJ5_append_cf1ce 20 = .ok (.iadd, 1) := dkAt dk_J5_append_cf1ce 12 rfl
theorem dj_J5_append_cf1ce_21 : decode cJ5_append_cf1ce 21 = .ok (.invokevirtual 100, 3) := dkAt dk_J5_append_cf1ce 13 rfl
theorem dj_J5_append_cf1ce_24 : decode cJ5_append_cf1ce 24 = .ok (.aload_n 0, 1) := dkAt dk_J5_append_cf1ce 14 rfl
theorem dj_J5_append_cf1ce_25 : decode cJ5_append_cf1ce 25 = .ok (.aload_n 0, 1) := dkAt dk_J5_append_cf1ce 15 rfl
theorem dj_J5_append_cf1ce_26 : decode cJ5_append_cf1ce 26 = .ok (.getfield 79, 3) := dkAt dk_J5_append_cf1ce 16 rfl
theorem dj_J5_append_cf1ce_29 : decode cJ5_append_cf1ce 29 = .ok (.aload_n 1, 1) := dkAt dk_J5_append_cf1ce 17 rfl
theorem dj_J5_append_cf1ce_30 : decode cJ5_append_cf1ce 30 = .ok (.invokevirtual 208, 3) := dkAt dk_J5_append_cf1ce 18 rfl
theorem dj_J5_append_cf1ce_33 : decode cJ5_append_cf1ce 33 = .ok (.aload_n 0, 1) := dkAt dk_J5_append_cf1ce 19 rfl
theorem dj_J5_append_cf1ce_34 : decode cJ5_append_cf1ce 34 = .ok (.dup, 1) := dkAt dk_J5_append_cf1ce 20 rfl
theorem dj_J5_append_cf1ce_35 : decode cJ5_append_cf1ce 35 = .ok (.getfield 79, 3) := dkAt dk_J5_append_cf1ce 21 rfl
theorem dj_J5_append_cf1ce_38 : decode cJ5_append_cf1ce 38 = .ok (.iload_n 2, 1) := dkAt dk_J5_append_cf1ce 22 rfl
theorem dj_J5_append_cf1ce_39 : decode cJ5_append_cf1ce 39 = .ok (.iadd, 1) := dkAt dk_J5_append_cf1ce 23 rfl
theorem dj_J5_append_cf1ce_40 : decode cJ5_append_cf1ce 40 = .ok (.putfield 79, 3) := dkAt dk_J5_append_cf1ce 24 rfl
theorem dj_J5_append_cf1ce_43 : decode cJ5_append_cf1ce 43 = .ok (.aload_n 0, 1) := dkAt dk_J5_append_cf1ce 25 rfl
theorem dj_J5_append_cf1ce_44 : decode cJ5_append_cf1ce 44 = .ok (.areturn, 1) := dkAt dk_J5_append_cf1ce 26 rfl
theorem mw_J5_appendNull_278bc : MW yJ5_appendNull_278bc cJ5_appendNull_278bc 3 (some (.object "java/lang/AbstractStringBuilder")) 0 := ⟨gd 49 (by decide +kernel) rfl, gd 537 (by decide +kernel) rfl, ⟨by decide, by decide⟩, by decide +kernel⟩
theorem mn_J5_appendNull_278bc : Gd (.instanceMethod yJ5_appendNull_278bc) := gd 536 (by decide +kernel) rfl
theorem dj_J5_appendNull_278bc_0 : decode cJ5_appendNull_278bc 0 = .ok (.aload_n 0, 1) := dkAt dk_J5_appendNull_278bc 0 rfl
theorem dj_J5_appendNull_278bc_1 : decode cJ5_appendNull_278bc 1 = .ok (.aload_n 0, 1) := dkAt dk_J5_appendNull_278bc 1 rfl
theorem dj_J5_appendNull_278bc_2 : decode cJ5_appendNull_278bc 2 = .ok (.getfield 79, 3) := dkAt dk_J5_appendNull_278bc 2 rfl
theorem dj_J5_appendNull_278bc_5 : decode cJ5_appendNull_278bc 5 = .ok (.iconst 4, 1) := dkAt dk_J5_appendNull_278bc 3 rfl
theorem dj_J5_appendNull_278bc_6 : decode cJ5_appendNull_278bc 6 = .ok (.iadd, 1) := dkAt dk_J5_appendNull_278bc 4 rfl
theorem dj_J5_appendNull_278bc_7 : decode cJ5_appendNull_278bc 7 = .ok (.invokevirtual 100, 3) := dkAt dk_J5_appendNull_278bc 5 rfl
theorem dj_J5_appendNull_278bc_10 : decode cJ5_appendNull_278bc 10 = .ok (.aload_n 0, 1) := dkAt dk_J5_appendNull_278bc 6 rfl
theorem dj_J5_appendNull_278bc_11 : decode cJ5_appendNull_278bc 11 = .ok (.getfield 79, 3) := dkAt dk_J5_appendNull_278bc 7 rfl
theorem dj_J5_appendNull_278bc_14 : decode cJ5_appendNull_278bc 14 = .ok (.istore_n 1, 1) := dkAt dk_J5_appendNull_278bc 8 rfl
theorem dj_J5_appendNull_278bc_15 : decode cJ5_appendNull_278bc 15 = .ok (.aload_n 0, 1) := dkAt dk_J5_appendNull_278bc 9 rfl
theorem dj_J5_appendNull_278bc_16 : decode cJ5_appendNull_278bc 16 = .ok (.getfield 15, 3) := dkAt dk_J5_appendNull_278bc 10 rfl
theorem dj_J5_appendNull_278bc_19 : decode cJ5_appendNull_278bc 19 = .ok (.astore_n 2, 1) := dkAt dk_J5_appendNull_278bc 11 rfl
theorem dj_J5_appendNull_278bc_20 : decode cJ5_appendNull_278bc 20 = .ok (.aload_n 0, 1) := dkAt dk_J5_appendNull_278bc 12 rfl
theorem dj_J5_appendNull_278bc_21 : decode cJ5_appendNull_278bc 21 = .ok (.invokevirtual 83, 3) := dkAt dk_J5_appendNull_278bc 13 rfl
theorem dj_J5_appendNull_278bc_24 : decode cJ5_appendNull_278bc 24 = .ok (.ifCond .eq 38, 3) := dkAt dk_J5_appendNull_278bc 14 rfl
theorem dj_J5_appendNull_278bc_27 : decode cJ5_appendNull_278bc 27 = .ok (.aload_n 2, 1) := dkAt dk_J5_appendNull_278bc 15 rfl
theorem dj_J5_appendNull_278bc_28 : decode cJ5_appendNull_278bc 28 = .ok (.iload_n 1, 1) := dkAt dk_J5_appendNull_278bc 16 rfl
theorem dj_J5_appendNull_278bc_29 : decode cJ5_appendNull_278bc 29 = .ok (.iinc 1 1, 3) := dkAt dk_J5_appendNull_278bc 17 rfl
theorem dj_J5_appendNull_278bc_32 : decode cJ5_appendNull_278bc 32 = .ok (.bipush 110, 2) := dkAt dk_J5_appendNull_278bc 18 rfl
theorem dj_J5_appendNull_278bc_34 : decode cJ5_appendNull_278bc 34 = .ok (.bastore, 1) := dkAt dk_J5_appendNull_278bc 19 rfl
theorem dj_J5_appendNull_278bc_35 : decode cJ5_appendNull_278bc 35 = .ok (.aload_n 2, 1) := dkAt dk_J5_appendNull_278bc 20 rfl
theorem dj_J5_appendNull_278bc_36 : decode cJ5_appendNull_278bc 36 = .ok (.iload_n 1, 1) := dkAt dk_J5_appendNull_278bc 21 rfl
theorem dj_J5_appendNull_278bc_37 : decode cJ5_appendNull_278bc 37 = .ok (.iinc 1 1, 3) := dkAt dk_J5_appendNull_278bc 22 rfl
theorem dj_J5_appendNull_278bc_40 : decode cJ5_appendNull_278bc 40 = .ok (.bipush 117, 2) := dkAt dk_J5_appendNull_278bc 23 rfl
theorem dj_J5_appendNull_278bc_42 : decode cJ5_appendNull_278bc 42 = .ok (.bastore, 1) := dkAt dk_J5_appendNull_278bc 24 rfl
theorem dj_J5_appendNull_278bc_43 : decode cJ5_appendNull_278bc 43 = .ok (.aload_n 2, 1) := dkAt dk_J5_appendNull_278bc 25 rfl
theorem dj_J5_appendNull_278bc_44 : decode cJ5_appendNull_278bc 44 = .ok (.iload_n 1, 1) := dkAt dk_J5_appendNull_278bc 26 rfl
theorem dj_J5_appendNull_278bc_45 : decode cJ5_appendNull_278bc 45 = .ok (.iinc 1 1, 3) := dkAt dk_J5_appendNull_278bc 27 rfl
theorem dj_J5_appendNull_278bc_48 : decode cJ5_appendNull_278bc 48 = .ok (.bipush 108, 2) := dkAt dk_J5_appendNull_278bc 28 rfl
theorem dj_J5_appendNull_278bc_50 : decode cJ5_appendNull_278bc 50 = .ok (.bastore, 1) := dkAt dk_J5_appendNull_278bc 29 rfl
theorem dj_J5_appendNull_278bc_51 : decode cJ5_appendNull_278bc 51 = .ok (.aload_n 2, 1) := dkAt dk_J5_appendNull_278bc 30 rfl
theorem dj_J5_appendNull_278bc_52 : decode cJ5_appendNull_278bc 52 = .ok (.iload_n 1, 1) := dkAt dk_J5_appendNull_278bc 31 rfl
theorem dj_J5_appendNull_278bc_53 : decode cJ5_appendNull_278bc 53 = .ok (.iinc 1 1, 3) := dkAt dk_J5_appendNull_278bc 32 rfl
theorem dj_J5_appendNull_278bc_56 : decode cJ5_appendNull_278bc 56 = .ok (.bipush 108, 2) := dkAt dk_J5_appendNull_278bc 33 rfl
theorem dj_J5_appendNull_278bc_58 : decode cJ5_appendNull_278bc 58 = .ok (.bastore, 1) := dkAt dk_J5_appendNull_278bc 34 rfl
theorem dj_J5_appendNull_278bc_59 : decode cJ5_appendNull_278bc 59 = .ok (.goto 17, 3) := dkAt dk_J5_appendNull_278bc 35 rfl
theorem dj_J5_appendNull_278bc_62 : decode cJ5_appendNull_278bc 62 = .ok (.aload_n 2, 1) := dkAt dk_J5_appendNull_278bc 36 rfl
theorem dj_J5_appendNull_278bc_63 : decode cJ5_appendNull_278bc 63 = .ok (.iload_n 1, 1) := dkAt dk_J5_appendNull_278bc 37 rfl
theorem dj_J5_appendNull_278bc_64 : decode cJ5_appendNull_278bc 64 = .ok (.bipush 110, 2) := dkAt dk_J5_appendNull_278bc 38 rfl
theorem dj_J5_appendNull_278bc_66 : decode cJ5_appendNull_278bc 66 = .ok (.bipush 117, 2) := dkAt dk_J5_appendNull_278bc 39 rfl
theorem dj_J5_appendNull_278bc_68 : decode cJ5_appendNull_278bc 68 = .ok (.bipush 108, 2) := dkAt dk_J5_appendNull_278bc 40 rfl
theorem dj_J5_appendNull_278bc_70 : decode cJ5_appendNull_278bc 70 = .ok (.bipush 108, 2) := dkAt dk_J5_appendNull_278bc 41 rfl
theorem dj_J5_appendNull_278bc_72 : decode cJ5_appendNull_278bc 72 = .ok (.invokestatic 226, 3) := dkAt dk_J5_appendNull_278bc 42 rfl
theorem dj_J5_appendNull_278bc_75 : decode cJ5_appendNull_278bc 75 = .ok (.istore_n 1, 1) := dkAt dk_J5_appendNull_278bc 43 rfl
theorem dj_J5_appendNull_278bc_76 : decode cJ5_appendNull_278bc 76 = .ok (.aload_n 0, 1) := dkAt dk_J5_appendNull_278bc 44 rfl
theorem dj_J5_appendNull_278bc_77 : decode cJ5_appendNull_278bc 77 = .ok (.iload_n 1, 1) := dkAt dk_J5_appendNull_278bc 45 rfl
theorem dj_J5_appendNull_278bc_78 : decode cJ5_appendNull_278bc 78 = .ok (.putfield 79, 3) := dkAt dk_J5_appendNull_278bc 46 rfl
theorem dj_J5_appendNull_278bc_81 : decode cJ5_appendNull_278bc 81 = .ok (.aload_n 0, 1) := dkAt dk_J5_appendNull_278bc 47 rfl
theorem dj_J5_appendNull_278bc_82 : decode cJ5_appendNull_278bc 82 = .ok (.areturn, 1) := dkAt dk_J5_appendNull_278bc 48 rfl
theorem mw_J5_append_3fe6f : MW yJ5_append_3fe6f cJ5_append_3fe6f 2 (some (.object "java/lang/AbstractStringBuilder")) 1 := ⟨gd 49 (by decide +kernel) rfl, gd 706 (by decide +kernel) rfl, ⟨by decide, by decide⟩, by decide +kernel⟩
theorem mn_J5_append_3fe6f : Gd (.instanceMethod yJ5_append_3fe6f) := gd 705 (by decide +kernel) rfl
theorem dj_J5_append_3fe6f_0 : decode cJ5_append_3fe6f 0 = .ok (.aload_n 0, 1) := dkAt dk_J5_append_3fe6f 0 rfl
theorem dj_J5_append_3fe6f_1 : decode cJ5_append_3fe6f 1 = .ok (.aload_n 0, 1) := dkAt dk_J5_append_3fe6f 1 rfl
theorem dj_J5_append_3fe6f_2 : decode cJ5_append_3fe6f 2 = .ok (.getfield 79, 3) := dkAt dk_J5_append_3fe6f 2 rfl
theorem dj_J5_append_3fe6f_5 : decode cJ5_append_3fe6f 5 = .ok (.iconst 1, 1) := dkAt dk_J5_append_3fe6f 3 rfl
theorem dj_J5_append_3fe6f_6 : decode cJ5_append_3fe6f 6 = .ok (.iadd, 1) := dkAt dk_J5_append_3fe6f 4 rfl
theorem dj_J5_append_3fe6f_7 : decode cJ5_append_3fe6f 7 = .ok (.invokevirtual 100, 3) := dkAt dk_J5_append_3fe6f 5 rfl
theorem dj_J5_append_3fe6f_10 : decode cJ5_append_3fe6f 10 = .ok (.aload_n 0, 1) := dkAt dk_J5_append_3fe6f 6 rfl
theorem dj_J5_append_3fe6f_11 : decode cJ5_append_3fe6f 11 = .ok (.invokevirtual 83, 3) := dkAt dk_J5_append_3fe6f 7 rfl
theorem dj_J5_append_3fe6f_14 : decode cJ5_append_3fe6f 14 = .ok (.ifCond .eq 31, 3) := dkAt dk_J5_append_3fe6f 8 rfl
theorem dj_J5_append_3fe6f_17 : decode cJ5_append_3fe6f 17 = .ok (.iload_n 1, 1) := dkAt dk_J5_append_3fe6f 9 rfl
theorem dj_J5_append_3fe6f_18 : decode cJ5_append_3fe6f 18 = .ok (.invokestatic 191, 3) := dkAt dk_J5_append_3fe6f 10 rfl
theorem dj_J5_append_3fe6f_21 : decode cJ5_append_3fe6f 21 = .ok (.ifCond .eq 24, 3) := dkAt dk_J5_append_3fe6f 11 rfl
theorem dj_J5_append_3fe6f_24 : decode cJ5_append_3fe6f 24 = .ok (.aload_n 0, 1) := dkAt dk_J5_append_3fe6f 12 rfl
theorem dj_J5_append_3fe6f_25 : decode cJ5_append_3fe6f 25 = .ok (.getfield 15, 3) := dkAt dk_J5_append_3fe6f 13 rfl
theorem dj_J5_append_3fe6f_28 : decode cJ5_append_3fe6f 28 = .ok (.aload_n 0, 1) := dkAt dk_J5_append_3fe6f 14 rfl
theorem dj_J5_append_3fe6f_29 : decode cJ5_append_3fe6f 29 = .ok (.dup, 1) := dkAt dk_J5_append_3fe6f 15 rfl
theorem dj_J5_append_3fe6f_30 : decode cJ5_append_3fe6f 30 = .ok (.getfield 79, 3) := dkAt dk_J5_append_3fe6f 16 rfl
theorem dj_J5_append_3fe6f_33 : decode cJ5_append_3fe6f 33 = .ok (.dup_x1, 1) := dkAt dk_J5_append_3fe6f 17 rfl
theorem dj_J5_append_3fe6f_34 : decode cJ5_append_3fe6f 34 = .ok (.iconst 1, 1) := dkAt dk_J5_append_3fe6f 18 rfl
theorem dj_J5_append_3fe6f_35 : decode cJ5_append_3fe6f 35 = .ok (.iadd, 1) := dkAt dk_J5_append_3fe6f 19 rfl
theorem dj_J5_append_3fe6f_36 : decode cJ5_append_3fe6f 36 = .ok (.putfield 79, 3) := dkAt dk_J5_append_3fe6f 20 rfl
theorem dj_J5_append_3fe6f_39 : decode cJ5_append_3fe6f 39 = .ok (.iload_n 1, 1) := dkAt dk_J5_append_3fe6f 21 rfl
theorem dj_J5_append_3fe6f_40 : decode cJ5_append_3fe6f 40 = .ok (.i2b, 1) := dkAt dk_J5_append_3fe6f 22 rfl
theorem dj_J5_append_3fe6f_41 : decode cJ5_append_3fe6f 41 = .ok (.bastore, 1) := dkAt dk_J5_append_3fe6f 23 rfl
theorem dj_J5_append_3fe6f_42 : decode cJ5_append_3fe6f 42 = .ok (.goto 33, 3) := dkAt dk_J5_append_3fe6f 24 rfl
theorem dj_J5_append_3fe6f_45 : decode cJ5_append_3fe6f 45 = .ok (.aload_n 0, 1) := dkAt dk_J5_append_3fe6f 25 rfl
theorem dj_J5_append_3fe6f_46 : decode cJ5_append_3fe6f 46 = .ok (.invokevirtual 83, 3) := dkAt dk_J5_append_3fe6f 26 rfl
theorem dj_J5_append_3fe6f_49 : decode cJ5_append_3fe6f 49 = .ok (.ifCond .eq 7, 3) := dkAt dk_J5_append_3fe6f 27 rfl
theorem dj_J5_append_3fe6f_52 : decode cJ5_append_3fe6f 52 = .ok (.aload_n 0, 1) := dkAt dk_J5_append_3fe6f 28 rfl
theorem dj_J5_append_3fe6f_53 : decode cJ5_append_3fe6f 53 = .ok (.invokevirtual 195, 3) := dkAt dk_J5_append_3fe6f 29 rfl
theorem dj_J5_append_3fe6f_56 : decode cJ5_append_3fe6f 56 = .ok (.aload_n 0, 1) := dkAt dk_J5_append_3fe6f 30 rfl
theorem dj_J5_append_3fe6f_57 : decode cJ5_append_3fe6f 57 = .ok (.getfield 15, 3) := dkAt dk_J5_append_3fe6f 31 rfl
theorem dj_J5_append_3fe6f_60 : decode cJ5_append_3fe6f 60 = .ok (.aload_n 0, 1) := dkAt dk_J5_append_3fe6f 32 rfl
theorem dj_J5_append_3fe6f_61 : decode cJ5_append_3fe6f 61 = .ok (.dup, 1) := dkAt dk_J5_append_3fe6f 33 rfl
theorem dj_J5_append_3fe6f_62 : decode cJ5_append_3fe6f 62 = .ok (.getfield 79, 3) := dkAt dk_J5_append_3fe6f 34 rfl
theorem dj_J5_append_3fe6f_65 : decode cJ5_append_3fe6f 65 = .ok (.dup_x1, 1) := dkAt dk_J5_append_3fe6f 35 rfl
theorem dj_J5_append_3fe6f_66 : decode cJ5_append_3fe6f 66 = .ok (.iconst 1, 1) := dkAt dk_J5_append_3fe6f 36 rfl
theorem dj_J5_append_3fe6f_67 : decode cJ5_append_3fe6f 67 = .ok (.iadd, 1) := dkAt dk_J5_append_3fe6f 37 rfl
theorem dj_J5_append_3fe6f_68 : decode cJ5_append_3fe6f 68 = .ok (.putfield 79, 3) := dkAt dk_J5_append_3fe6f 38 rfl
theorem dj_J5_append_3fe6f_71 : decode cJ5_append_3fe6f 71 = .ok (.iload_n 1, 1) := dkAt dk_J5_append_3fe6f 39 rfl
theorem dj_J5_append_3fe6f_72 : decode cJ5_append_3fe6f 72 = .ok (.invokestatic 197, 3) := dkAt dk_J5_append_3fe6f 40 rfl
theorem dj_J5_append_3fe6f_75 : decode cJ5_append_3fe6f 75 = .ok (.aload_n 0, 1) := dkAt dk_J5_append_3fe6f 41 rfl
theorem dj_J5_append_3fe6f_76 : decode cJ5_append_3fe6f 76 = .ok (.areturn, 1) := dkAt dk_J5_append_3fe6f 42 rfl
theorem mw_J5_append_c97b9 : MW yJ5_append_c97b9 cJ5_append_c97b9 4 (some (.object "java/lang/AbstractStringBuilder")) 1 := ⟨gd 49 (by decide +kernel) rfl, gd 666 (by decide +kernel) rfl, ⟨by decide, by decide⟩, by decide +kernel⟩
theorem mn_J5_append_c97b9 : Gd (.instanceMethod yJ5_append_c97b9) := gd 665 (by decide +kernel) rfl
theorem dj_J5_append_c97b9_0 : decode cJ5_append_c97b9 0 = .ok (.aload_n 0, 1) := dkAt dk_J5_append_c97b9 0 rfl
theorem dj_J5_append_c97b9_1 : decode cJ5_append_c97b9 1 = .ok (.getfield 79, 3) := dkAt dk_J5_append_c97b9 1 rfl
theorem dj_J5_append_c97b9_4 : decode cJ5_append_c97b9 4 = .ok (.istore_n 2, 1) := dkAt dk_J5_append_c97b9 2 rfl
theorem dj_J5_append_c97b9_5 : decode cJ5_append_c97b9 5 = .ok (.iload_n 2, 1) := dkAt dk_J5_append_c97b9 3 rfl
theorem dj_J5_append_c97b9_6 : decode cJ5_append_c97b9 6 = .ok (.iload_n 1, 1) := dkAt dk_J5_append_c97b9 4 rfl
theorem dj_J5_append_c97b9_7 : decode cJ5_append_c97b9 7 = .ok (.invokestatic 245, 3) := dkAt dk_J5_append_c97b9 5 rfl
theorem dj_J5_append_c97b9_10 : decode cJ5_append_c97b9 10 = .ok (.iadd, 1) := dkAt dk_J5_append_c97b9 6 rfl
theorem dj_J5_append_c97b9_11 : decode cJ5_append_c97b9 11 = .ok (.istore_n 3, 1) := dkAt dk_J5_append_c97b9 7 rfl
theorem dj_J5_append_c97b9_12 : decode cJ5_append_c97b9 12 = .ok (.aload_n 0, 1) := dkAt dk_J5_append_c97b9 8 rfl
theorem dj_J5_append_c97b9_13 : decode cJ5_append_c97b9 13 = .ok (.iload_n 3, 1) := dkAt dk_J5_append_c97b9 9 rfl
theorem dj_J5_append_c97b9_14 : decode cJ5_append_c97b9 14 = .ok (.invokevirtual 100, 3) := dkAt dk_J5_append_c97b9 10 rfl
theorem dj_J5_append_c97b9_17 : decode cJ5_append_c97b9 17 = .ok (.aload_n 0, 1) := dkAt dk_J5_append_c97b9 11 rfl
theorem dj_J5_append_c97b9_18 : decode cJ5_append_c97b9 18 = .ok (.invokevirtual 83, 3) := dkAt dk_J5_append_c97b9 12 rfl
theorem dj_J5_append_c97b9_21 : decode cJ5_append_c97b9 21 = .ok (.ifCond .eq 16, 3) := dkAt dk_J5_append_c97b9 13 rfl
theorem dj_J5_append_c97b9_24 : decode cJ5_append_c97b9 24 = .ok (.iload_n 1, 1) := dkAt dk_J5_append_c97b9 14 rfl
theorem dj_J5_append_c97b9_25 : decode cJ5_append_c97b9 25 = .ok (.iload_n 3, 1) := dkAt dk_J5_append_c97b9 15 rfl
theorem dj_J5_append_c97b9_26 : decode cJ5_append_c97b9 26 = .ok (.aload_n 0, 1) := dkAt dk_J5_append_c97b9 16 rfl
theorem dj_J5_append_c97b9_27 : decode cJ5_append_c97b9 27 = .ok (.getfield 15, 3) := dkAt dk_J5_append_c97b9 17 rfl
theorem dj_J5_append_c97b9_30 : decode cJ5_append_c97b9 30 = .ok (.invokestatic 248, 3) := dkAt dk_J5_append_c97b9 18 rfl
theorem dj_J5_append_c97b9_33 : decode cJ5_append_c97b9 33 = .ok (.pop, 1) := dkAt dk_J5_append_c97b9 19 rfl
theorem dj_J5_append_c97b9_34 : decode cJ5_append_c97b9 34 = .ok (.goto 14, 3) := dkAt dk_J5_append_c97b9 20 rfl
theorem dj_J5_append_c97b9_37 : decode cJ5_append_c97b9 37 = .ok (.iload_n 1, 1) := dkAt dk_J5_append_c97b9 21 rfl
theorem dj_J5_append_c97b9_38 : decode cJ5_append_c97b9 38 = .ok (.iload_n 2, 1) := dkAt dk_J5_append_c97b9 22 rfl
theorem dj_J5_append_c97b9_39 : decode cJ5_append_c97b9 39 = .ok (.iload_n 3, 1) := dkAt dk_J5_append_c97b9 23 rfl
theorem dj_J5_append_c97b9_40 : decode cJ5_append_c97b9 40 = .ok (.aload_n 0, 1) := dkAt dk_J5_append_c97b9 24 rfl
theorem dj_J5_append_c97b9_41 : decode cJ5_append_c97b9 41 = .ok (.getfield 15, 3) := dkAt dk_J5_append_c97b9 25 rfl
theorem dj_J5_append_c97b9_44 : decode cJ5_append_c97b9 44 = .ok (.invokestatic 251, 3) := dkAt dk_J5_append_c97b9 26 rfl
theorem dj_J5_append_c97b9_47 : decode cJ5_append_c97b9 47 = .ok (.pop, 1) := dkAt dk_J5_append_c97b9 27 rfl
theorem dj_J5_append_c97b9_48 : decode cJ5_append_c97b9 48 = .ok (.aload_n 0, 1) := dkAt dk_J5_append_c97b9 28 rfl
theorem dj_J5_append_c97b9_49 : decode cJ5_append_c97b9 49 = .ok (.iload_n 3, 1) := dkAt dk_J5_append_c97b9 29 rfl
theorem dj_J5_append_c97b9_50 : decode cJ5_append_c97b9 50 = .ok (.putfield 79, 3) := dkAt dk_J5_append_c97b9 30 rfl
theorem dj_J5_append_c97b9_53 : decode cJ5_append_c97b9 53 = .ok (.aload_n 0, 1) := dkAt dk_J5_append_c97b9 31 rfl
theorem dj_J5_append_c97b9_54 : decode cJ5_append_c97b9 54 = .ok (.areturn, 1) := dkAt dk_J5_append_c97b9 32 rfl
theorem mw_J5_getValue_6d5f1 : MW yJ5_getValue_6d5f1 cJ5_getValue_6d5f1 1 (some (.array .byte)) 0 := ⟨gd 49 (by decide +kernel) rfl, gd 1623 (by decide +kernel) rfl, ⟨by decide, by decide⟩, by decide +kernel⟩
theorem mn_J5_getValue_6d5f1 : Gd (.instanceMethod yJ5_getValue_6d5f1) := gd 1620 (by decide +kernel) rfl
theorem dj_J5_getValue_6d5f1_0 : decode cJ5_getValue_6d5f1 0 = .ok (.aload_n 0, 1) := dkAt dk_J5_getValue_6d5f1 0 rfl
theorem dj_J5_getValue_6d5f1_1 : decode cJ5_getValue_6d5f1 1 = .ok (.getfield 15, 3) := dkAt dk_J5_getValue_6d5f1 1 rfl
theorem dj_J5_getValue_6d5f1_4 : decode cJ5_getValue_6d5f1 4 = .ok (.areturn, 1) := dkAt dk_J5_getValue_6d5f1 2 rfl
theorem mw_J5_isLatin1_aae02 : MW yJ5_isLatin1_aae02 cJ5_isLatin1_aae02 1 (some .boolean) 0 := ⟨gd 49 (by decide +kernel) rfl, gd 576 (by decide +kernel) rfl, ⟨by decide, by decide⟩, by decide +kernel⟩
theorem mn_J5_isLatin1_aae02 : Gd (.instanceMethod yJ5_isLatin1_aae02) := gd 573 (by decide +kernel) rfl
theorem dj_J5_isLatin1_aae02_0 : decode cJ5_isLatin1_aae02 0 = .ok (.getstatic 18, 3) := dkAt dk_J5_isLatin1_aae02 0 rfl
theorem dj_J5_isLatin1_aae02_3 : decode cJ5_isLatin1_aae02 3 = .ok (.ifCond .eq 14, 3) := dkAt dk_J5_isLatin1_aae02 1 rfl
theorem dj_J5_isLatin1_aae02_6 : decode cJ5_isLatin1_aae02 6 = .ok (.aload_n 0, 1) := dkAt dk_J5_isLatin1_aae02 2 rfl
theorem dj_J5_isLatin1_aae02_7 : decode cJ5_isLatin1_aae02 7 = .ok (.getfield 22, 3) := dkAt dk_J5_isLatin1_aae02 3 rfl
theorem dj_J5_isLatin1_aae02_10 : decode cJ5_isLatin1_aae02 10 = .ok (.ifCond .ne 7, 3) := dkAt dk_J5_isLatin1_aae02 4 rfl
theorem dj_J5_isLatin1_aae02_13 : decode cJ5_isLatin1_aae02 13 = .ok (.iconst 1, 1) := dkAt dk_J5_isLatin1_aae02 5 rfl
theorem dj_J5_isLatin1_aae02_14 : decode cJ5_isLatin1_aae02 14 = .ok (.goto 4, 3) := dkAt dk_J5_isLatin1_aae02 6 rfl
theorem dj_J5_isLatin1_aae02_17 : decode cJ5_isLatin1_aae02 17 = .ok (.iconst 0, 1) := dkAt dk_J5_isLatin1_aae02 7 rfl
theorem dj_J5_isLatin1_aae02_18 : decode cJ5_isLatin1_aae02 18 = .ok (.ireturn, 1) := dkAt dk_J5_isLatin1_aae02 8 rfl
theorem mw_J5_inflateIfNeededFor_a7421 : MW yJ5_inflateIfNeededFor_a7421 cJ5_inflateIfNeededFor_a7421 2 none 1 := ⟨gd 49 (by decide +kernel) rfl, gd 611 (by decide +kernel) rfl, ⟨by decide, by decide⟩, by decide +kernel⟩
theorem mn_J5_inflateIfNeededFor_a7421 : Gd (.instanceMethod yJ5_inflateIfNeededFor_a7421) := gd 610 (by decide +kernel) rfl
theorem dj_J5_inflateIfNeededFor_a7421_0 : decode cJ5_inflateIfNeededFor_a7421 0 = .ok (.getstatic 18, 3) := dkAt dk_J5_inflateIfNeededFor_a7421 0 rfl
theorem dj_J5_inflateIfNeededFor_a7421_3 : decode cJ5_inflateIfNeededFor_a7421 3 = .ok (.ifCond .eq 18, 3) := dkAt dk_J5_inflateIfNeededFor_a7421 1 rfl
theorem dj_J5_inflateIfNeededFor_a7421_6 : decode cJ5_inflateIfNeededFor_a7421 6 = .ok (.aload_n 0, 1) := dkAt dk_J5_inflateIfNeededFor_a7421 2 rfl
theorem dj_J5_inflateIfNeededFor_a7421_7 : decode cJ5_inflateIfNeededFor_a7421 7 = .ok (.getfield 22, 3) := dkAt dk_J5_inflateIfNeededFor_a7421 3 rfl
theorem dj_J5_inflateIfNeededFor_a7421_10 : decode cJ5_inflateIfNeededFor_a7421 10 = .ok (.aload_n 1, 1) := dkAt dk_J5_inflateIfNeededFor_a7421 4 rfl
theorem dj_J5_inflateIfNeededFor_a7421_11 : decode cJ5_inflateIfNeededFor_a7421 11 = .ok (.invokevirtual 40, 3) := dkAt dk_J5_inflateIfNeededFor_a7421 5 rfl
theorem dj_J5_inflateIfNeededFor_a7421_14 : decode cJ5_inflateIfNeededFor_a7421 14 = .ok (.if_icmp .eq 7, 3) := dkAt dk_J5_inflateIfNeededFor_a7421 6 rfl
theorem dj_J5_inflateIfNeededFor_a7421_17 : decode cJ5_inflateIfNeededFor_a7421 17 = .ok (.aload_n 0, 1) := dkAt dk_J5_inflateIfNeededFor_a7421 7 rfl
theorem dj_J5_inflateIfNeededFor_a7421_18 : decode cJ5_inflateIfNeededFor_a7421 18 = .ok (.invokevirtual 195, 3) := dkAt dk_J5_inflateIfNeededFor_a7421 8 rfl
theorem dj_J5_inflateIfNeededFor_a7421_21 : decode cJ5_inflateIfNeededFor_a7421 21 = .ok (.return_, 1) := dkAt dk_J5_inflateIfNeededFor_a7421 9 rfl
theorem mw_J5_putStringAt_47b60 : MW yJ5_putStringAt_47b60 cJ5_putStringAt_47b60 3 none 2 := ⟨gd 49 (by decide +kernel) rfl, gd 607 (by decide +kernel) rfl, ⟨by decide, by decide⟩, by decide +kernel⟩
theorem mn_J5_putStringAt_47b60 : Gd (.instanceMethod yJ5_putStringAt_47b60) := gd 606 (by decide +kernel) rfl
theorem dj_J5_putStringAt_47b60_0 : decode cJ5_putStringAt_47b60 0 = .ok (.aload_n 0, 1) := dkAt dk_J5_putStringAt_47b60 0 rfl
theorem dj_J5_putStringAt_47b60_1 : decode cJ5_putStringAt_47b60 1 = .ok (.aload_n 2, 1) := dkAt dk_J5_putStringAt_47b60 1 rfl
theorem dj_J5_putStringAt_47b60_2 : decode cJ5_putStringAt_47b60 2 = .ok (.invokevirtual 397, 3) := dkAt dk_J5_putStringAt_47b60 2 rfl
theorem dj_J5_putStringAt_47b60_5 : decode cJ5_putStringAt_47b60 5 = .ok (.aload_n 2, 1) := dkAt dk_J5_putStringAt_47b60 3 rfl
theorem dj_J5_putStringAt_47b60_6 : decode cJ5_putStringAt_47b60 6 = .ok (.aload_n 0, 1) := dkAt dk_J5_putStringAt_47b60 4 rfl
theorem dj_J5_putStringAt_47b60_7 : decode cJ5_putStringAt_47b60 7 = .ok (.getfield 15, 3) := dkAt dk_J5_putStringAt_47b60 5 rfl
theorem dj_J5_putStringAt_47b60_10 : decode cJ5_putStringAt_47b60 10 = .ok (.iload_n 1, 1) := dkAt dk_J5_putStringAt_47b60 6 rfl
theorem dj_J5_putStringAt_47b60_11 : decode cJ5_putStringAt_47b60 11 = .ok (.aload_n 0, 1) := dkAt dk_J5_putStringAt_47b60 7 rfl
theorem dj_J5_putStringAt_47b60_12 : decode cJ5_putStringAt_47b60 12 = .ok (.getfield 22, 3) := dkAt dk_J5_putStringAt_47b60 8 rfl
theorem dj_J5_putStringAt_47b60_15 : decode cJ5_putStringAt_47b60 15 = .ok (.invokevirtual 399, 3) := dkAt dk_J5_putStringAt_47b60 9 rfl
theorem dj_J5_putStringAt_47b60_18 : decode cJ5_putStringAt_47b60 18 = .ok (.return_, 1) := dkAt dk_J5_putStringAt_47b60 10 rfl
theorem mw_J6_getChars_ba4f3 : MW yJ6_getChars_ba4f3 cJ6_getChars_ba4f3 7 (some .int) 3 := ⟨gd 60 (by decide +kernel) rfl, gd 672 (by decide +kernel) rfl, ⟨by decide, by decide⟩, by decide +kernel⟩
theorem ms_J6_getChars_ba4f3 : Gd (.static yJ6_getChars_ba4f3) := gd 671 (by decide +kernel) rfl
theorem dj_J6_getChars_ba4f3_0 : decode cJ6_getChars_ba4f3 0 = .ok (.iload_n 1, 1) := dkAt dk_J6_getChars_ba4f3 0 rfl
theorem dj_J6_getChars_ba4f3_1 : decode cJ6_getChars_ba4f3 1 = .ok (.istore 5, 2) := dkAt dk_J6_getChars_ba4f3 1 rfl
theorem dj_J6_getChars_ba4f3_3 : decode cJ6_getChars_ba4f3 3 = .ok (.iload_n 0, 1) := dkAt dk_J6_getChars_ba4f3 2 rfl
theorem dj_J6_getChars_ba4f3_4 : decode cJ6_getChars_ba4f3 4 = .ok (.ifCond .ge 7, 3) := dkAt dk_J6_getChars_ba4f3 3 rfl
theorem dj_J6_getChars_ba4f3_7 : decode cJ6_getChars_ba4f3 7 = .ok (.iconst 1, 1) := dkAt dk_J6_getChars_ba4f3 4 rfl
theorem dj_J6_getChars_ba4f3_8 : decode cJ6_getChars_ba4f3 8 = .ok (.goto 4, 3) := dkAt dk_J6_getChars_ba4f3 5 rfl
theorem dj_J6_getChars_ba4f3_11 : decode cJ6_getChars_ba4f3 11 = .ok (.iconst 0, 1) := dkAt dk_J6_getChars_ba4f3 6 rfl
theorem dj_J6_getChars_ba4f3_12 : decode cJ6_getChars_ba4f3 12 = .ok (.istore 6, 2) := dkAt dk_J6_getChars_ba4f3 7 rfl
theorem dj_J6_getChars_ba4f3_14 : decode cJ6_getChars_ba4f3 14 = .ok (.iload 6, 2) := dkAt dk_J6_getChars_ba4f3 8 rfl
theorem dj_J6_getChars_ba4f3_16 : decode cJ6_getChars_ba4f3 16 = .ok (.ifCond .ne 6, 3) := dkAt dk_J6_getChars_ba4f3 9 rfl
theorem dj_J6_getChars_ba4f3_19 : decode cJ6_getChars_ba4f3 19 = .ok (.iload_n 0, 1) := dkAt dk_J6_getChars_ba4f3 10 rfl
theorem dj_J6_getChars_ba4f3_20 : decode cJ6_getChars_ba4f3 20 = .ok (.ineg, 1) := dkAt dk_J6_getChars_ba4f3 11 rfl
theorem dj_J6_getChars_ba4f3_21 : decode cJ6_getChars_ba4f3 21 = .ok (.istore_n 0, 1) := dkAt dk_J6_getChars_ba4f3 12 rfl
theorem dj_J6_getChars_ba4f3_22 : decode cJ6_getChars_ba4f3 22 = .ok (.iload_n 0, 1) := dkAt dk_J6_getChars_ba4f3 13 rfl
theorem dj_J6_getChars_ba4f3_23 : decode cJ6_getChars_ba4f3 23 = .ok (.bipush (-100), 2) := dkAt dk_J6_getChars_ba4f3 14 rfl
theorem dj_J6_getChars_ba4f3_25 : decode cJ6_getChars_ba4f3 25 = .ok (.if_icmp .gt 47, 3) := dkAt dk_J6_getChars_ba4f3 15 rfl
theorem dj_J6_getChars_ba4f3_28 : decode cJ6_getChars_ba4f3 28 = .ok (.iload_n 0, 1) := dkAt dk_J6_getChars_ba4f3 16 rfl
theorem dj_J6_getChars_ba4f3_29 : decode cJ6_getChars_ba4f3 29 = .ok (.bipush 100, 2) := dkAt dk_J6_getChars_ba4f3 17 rfl
theorem dj_J6_getChars_ba4f3_31 : decode cJ6_getChars_ba4f3 31 = .ok (.idiv, 1) := dkAt dk_J6_getChars_ba4f3 18 rfl
theorem dj_J6_getChars_ba4f3_32 : decode cJ6_getChars_ba4f3 32 = .ok (.istore_n 3, 1) := dkAt dk_J6_getChars_ba4f3 19 rfl
theorem dj_J6_getChars_ba4f3_33 : decode cJ6_getChars_ba4f3 33 = .ok (.iload_n 3, 1) := dkAt dk_J6_getChars_ba4f3 20 rfl
theorem dj_J6_getChars_ba4f3_34 : decode cJ6_getChars_ba4f3 34 = .ok (.bipush 100, 2) := dkAt dk_J6_getChars_ba4f3 21 rfl
theorem dj_J6_getChars_ba4f3_36 : decode cJ6_getChars_ba4f3 36 = .ok (.imul, 1) := dkAt dk_J6_getChars_ba4f3 22 rfl
theorem dj_J6_getChars_ba4f3_37 : decode cJ6_getChars_ba4f3 37 = .ok (.iload_n 0, 1) := dkAt dk_J6_getChars_ba4f3 23 rfl
theorem dj_J6_getChars_ba4f3_38 : decode cJ6_getChars_ba4f3 38 = .ok (.isub, 1) := dkAt dk_J6_getChars_ba4f3 24 rfl
theorem dj_J6_getChars_ba4f3_39 : decode cJ6_getChars_ba4f3 39 = .ok (.istore 4, 2) := dkAt dk_J6_getChars_ba4f3 25 rfl
theorem dj_J6_getChars_ba4f3_41 : decode cJ6_getChars_ba4f3 41 = .ok (.iload_n 3, 1) := dkAt dk_J6_getChars_ba4f3 26 rfl
theorem dj_J6_getChars_ba4f3_42 : decode cJ6_getChars_ba4f3 42 = .ok (.istore_n 0, 1) := dkAt dk_J6_getChars_ba4f3 27 rfl
theorem dj_J6_getChars_ba4f3_43 : decode cJ6_getChars_ba4f3 43 = .ok (.aload_n 2, 1) := dkAt dk_J6_getChars_ba4f3 28 rfl
theorem dj_J6_getChars_ba4f3_44 : decode cJ6_getChars_ba4f3 44 = .ok (.iinc 5 (-1), 3) := dkAt dk_J6_getChars_ba4f3 29 rfl
theorem dj_J6_getChars_ba4f3_47 : decode cJ6_getChars_ba4f3 47 = .ok (.iload 5, 2) := dkAt dk_J6_getChars_ba4f3 30 rfl
theorem dj_J6_getChars_ba4f3_49 : decode cJ6_getChars_ba4f3 49 = .ok (.getstatic 83, 3) := dkAt dk_J6_getChars_ba4f3 31 rfl
theorem dj_J6_getChars_ba4f3_52 : decode cJ6_getChars_ba4f3 52 = .ok (.iload 4, 2) := dkAt dk_J6_getChars_ba4f3 32 rfl
theorem dj_J6_getChars_ba4f3_54 : decode cJ6_getChars_ba4f3 54 = .ok (.baload, 1) := dkAt dk_J6_getChars_ba4f3 33 rfl
theorem dj_J6_getChars_ba4f3_55 : decode cJ6_getChars_ba4f3 55 = .ok (.bastore, 1) := dkAt dk_J6_getChars_ba4f3 34 rfl
theorem dj_J6_getChars_ba4f3_56 : decode cJ6_getChars_ba4f3 56 = .ok (.aload_n 2, 1) := dkAt dk_J6_getChars_ba4f3 35 rfl
theorem dj_J6_getChars_ba4f3_57 : decode cJ6_getChars_ba4f3 57 = .ok (.iinc 5 (-1), 3) := dkAt dk_J6_getChars_ba4f3 36 rfl
theorem dj_J6_getChars_ba4f3_60 : decode cJ6_getChars_ba4f3 60 = .ok (.iload 5, 2) := dkAt dk_J6_getChars_ba4f3 37 rfl
theorem dj_J6_getChars_ba4f3_62 : decode cJ6_getChars_ba4f3 62 = .ok (.getstatic 87, 3) := dkAt dk_J6_getChars_ba4f3 38 rfl
theorem dj_J6_getChars_ba4f3_65 : decode cJ6_getChars_ba4f3 65 = .ok (.iload 4, 2) := dkAt dk_J6_getChars_ba4f3 39 rfl
theorem dj_J6_getChars_ba4f3_67 : decode cJ6_getChars_ba4f3 67 = .ok (.baload, 1) := dkAt dk_J6_getChars_ba4f3 40 rfl
theorem dj_J6_getChars_ba4f3_68 : decode cJ6_getChars_ba4f3 68 = .ok (.bastore, 1) := dkAt dk_J6_getChars_ba4f3 41 rfl
theorem dj_J6_getChars_ba4f3_69 : decode cJ6_getChars_ba4f3 69 = .ok (.goto (-47), 3) := dkAt dk_J6_getChars_ba4f3 42 rfl
theorem dj_J6_getChars_ba4f3_72 : decode cJ6_getChars_ba4f3 72 = .ok (.aload_n 2, 1) := dkAt dk_J6_getChars_ba4f3 43 rfl
theorem dj_J6_getChars_ba4f3_73 : decode cJ6_getChars_ba4f3 73 = .ok (.iinc 5 (-1), 3) := dkAt dk_J6_getChars_ba4f3 44 rfl
theorem dj_J6_getChars_ba4f3_76 : decode cJ6_getChars_ba4f3 76 = .ok (.iload 5, 2) := dkAt dk_J6_getChars_ba4f3 45 rfl
theorem dj_J6_getChars_ba4f3_78 : decode cJ6_getChars_ba4f3 78 = .ok (.getstatic 83, 3) := dkAt dk_J6_getChars_ba4f3 46 rfl
theorem dj_J6_getChars_ba4f3_81 : decode cJ6_getChars_ba4f3 81 = .ok (.iload_n 0, 1) := dkAt dk_J6_getChars_ba4f3 47 rfl
theorem dj_J6_getChars_ba4f3_82 : decode cJ6_getChars_ba4f3 82 = .ok (.ineg, 1) := dkAt dk_J6_getChars_ba4f3 48 rfl
theorem dj_J6_getChars_ba4f3_83 : decode cJ6_getChars_ba4f3 83 = .ok (.baload, 1) := dkAt dk_J6_getChars_ba4f3 49 rfl
theorem dj_J6_getChars_ba4f3_84 : decode cJ6_getChars_ba4f3 84 = .ok (.bastore, 1) := dkAt dk_J6_getChars_ba4f3 50 rfl
theorem dj_J6_getChars_ba4f3_85 : decode cJ6_getChars_ba4f3 85 = .ok (.iload_n 0, 1) := dkAt dk_J6_getChars_ba4f3 51 rfl
theorem dj_J6_getChars_ba4f3_86 : decode cJ6_getChars_ba4f3 86 = .ok (.bipush (-9), 2) := dkAt dk_J6_getChars_ba4f3 52 rfl
theorem dj_J6_getChars_ba4f3_88 : decode cJ6_getChars_ba4f3 88 = .ok (.if_icmp .ge 16, 3) := dkAt dk_J6_getChars_ba4f3 53 rfl
theorem dj_J6_getChars_ba4f3_91 : decode cJ6_getChars_ba4f3 91 = .ok (.aload_n 2, 1) := dkAt dk_J6_getChars_ba4f3 54 rfl
theorem dj_J6_getChars_ba4f3_92 : decode cJ6_getChars_ba4f3 92 = .ok (.iinc 5 (-1), 3) := dkAt dk_J6_getChars_ba4f3 55 rfl
theorem dj_J6_getChars_ba4f3_95 : decode cJ6_getChars_ba4f3 95 = .ok (.iload 5, 2) := dkAt dk_J6_getChars_ba4f3 56 rfl
theorem dj_J6_getChars_ba4f3_97 : decode cJ6_getChars_ba4f3 97 = .ok (.getstatic 87, 3) := dkAt dk_J6_getChars_ba4f3 57 rfl
theorem dj_J6_getChars_ba4f3_100 : decode cJ6_getChars_ba4f3 100 = .ok (.iload_n 0, 1) := dkAt dk_J6_getChars_ba4f3 58 rfl
theorem dj_J6_getChars_ba4f3_101 : decode cJ6_getChars_ba4f3 101 = .ok (.ineg, 1) := dkAt dk_J6_getChars_ba4f3 59 rfl
theorem dj_J6_getChars_ba4f3_102 : decode cJ6_getChars_ba4f3 102 = .ok (.baload, 1) := dkAt dk_J6_getChars_ba4f3 60 rfl
theorem dj_J6_getChars_ba4f3_103 : decode cJ6_getChars_ba4f3 103 = .ok (.bastore, 1) := dkAt dk_J6_getChars_ba4f3 61 rfl
theorem dj_J6_getChars_ba4f3_104 : decode cJ6_getChars_ba4f3 104 = .ok (.iload 6, 2) := dkAt dk_J6_getChars_ba4f3 62 rfl
theorem dj_J6_getChars_ba4f3_106 : decode cJ6_getChars_ba4f3 106 = .ok (.ifCond .eq 12, 3) := dkAt dk_J6_getChars_ba4f3 63 rfl
theorem dj_J6_getChars_ba4f3_109 : decode cJ6_getChars_ba4f3 109 = .ok (.aload_n 2, 1) := dkAt dk_J6_getChars_ba4f3 64 rfl
theorem dj_J6_getChars_ba4f3_110 : decode cJ6_getChars_ba4f3 110 = .ok (.iinc 5 (-1), 3) := dkAt dk_J6_getChars_ba4f3 65 rfl
theorem dj_J6_getChars_ba4f3_113 : decode cJ6_getChars_ba4f3 113 = .ok (.iload 5, 2) := dkAt dk_J6_getChars_ba4f3 66 rfl
theorem dj_J6_getChars_ba4f3_115 : decode cJ6_getChars_ba4f3 115 = .ok (.bipush 45, 2) := dkAt dk_J6_getChars_ba4f3 67 rfl
theorem dj_J6_getChars_ba4f3_117 : decode cJ6_getChars_ba4f3 117 = .ok (.bastore, 1) := dkAt dk_J6_getChars_ba4f3 68 rfl
theorem dj_J6_getChars_ba4f3_118 : decode cJ6_getChars_ba4f3 118 = .ok (.iload 5, 2) := dkAt dk_J6_getChars_ba4f3 69 rfl
theorem dj_J6_getChars_ba4f3_120 : decode cJ6_getChars_ba4f3 120 = .ok (.ireturn, 1) := dkAt dk_J6_getChars_ba4f3 70 rfl
theorem mw_J6_stringSize_0f7a4 : MW yJ6_stringSize_0f7a4 cJ6_stringSize_0f7a4 4 (some .int) 1 := ⟨gd 60 (by decide +kernel) rfl, gd 669 (by decide +kernel) rfl, ⟨by decide, by decide⟩, by decide +kernel⟩
theorem ms_J6_stringSize_0f7a4 : Gd (.static yJ6_stringSize_0f7a4) := gd 668 (by decide +kernel) rfl
theorem dj_J6_stringSize_0f7a4_0 : decode cJ6_stringSize_0f7a4 0 = .ok (.iconst 1, 1) := dkAt dk_J6_stringSize_0f7a4 0 rfl
theorem dj_J6_stringSize_0f7a4_1 : decode cJ6_stringSize_0f7a4 1 = .ok (.istore_n 1, 1) := dkAt dk_J6_stringSize_0f7a4 1 rfl
theorem dj_J6_stringSize_0f7a4_2 : decode cJ6_stringSize_0f7a4 2 = .ok (.iload_n 0, 1) := dkAt dk_J6_stringSize_0f7a4 2 rfl
theorem dj_J6_stringSize_0f7a4_3 : decode cJ6_stringSize_0f7a4 3 = .ok (.ifCond .lt 8, 3) := dkAt dk_J6_stringSize_0f7a4 3 rfl
theorem dj_J6_stringSize_0f7a4_6 : decode cJ6_stringSize_0f7a4 6 = .ok (.iconst 0, 1) := dkAt dk_J6_stringSize_0f7a4 4 rfl
theorem dj_J6_stringSize_0f7a4_7 : decode cJ6_stringSize_0f7a4 7 = .ok (.istore_n 1, 1) := dkAt dk_J6_stringSize_0f7a4 5 rfl
theorem dj_J6_stringSize_0f7a4_8 : decode cJ6_stringSize_0f7a4 8 = .ok (.iload_n 0, 1) := dkAt dk_J6_stringSize_0f7a4 6 rfl
theorem dj_J6_stringSize_0f7a4_9 : decode cJ6_stringSize_0f7a4 9 = .ok (.ineg, 1) := dkAt dk_J6_stringSize_0f7a4 7 rfl
theorem dj_J6_stringSize_0f7a4_10 : decode cJ6_stringSize_0f7a4 10 = .ok (.istore_n 0, 1) := dkAt dk_J6_stringSize_0f7a4 8 rfl
theorem dj_J6_stringSize_0f7a4_11 : decode cJ6_stringSize_0f7a4 11 = .ok (.bipush (-10), 2) := dkAt dk_J6_stringSize_0f7a4 9 rfl
theorem dj_J6_stringSize_0f7a4_13 : decode cJ6_stringSize_0f7a4 13 = .ok (.istore_n 2, 1) := dkAt dk_J6_stringSize_0f7a4 10 rfl
theorem dj_J6_stringSize_0f7a4_14 : decode cJ6_stringSize_0f7a4 14 = .ok (.iconst 1, 1) := dkAt dk_J6_stringSize_0f7a4 11 rfl
theorem dj_J6_stringSize_0f7a4_15 : decode cJ6_stringSize_0f7a4 15 = .ok (.istore_n 3, 1) := dkAt dk_J6_stringSize_0f7a4 12 rfl
theorem dj_J6_stringSize_0f7a4_16 : decode cJ6_stringSize_0f7a4 16 = .ok (.iload_n 3, 1) := dkAt dk_J6_stringSize_0f7a4 13 rfl
theorem dj_J6_stringSize_0f7a4_17 : decode cJ6_stringSize_0f7a4 17 = .ok (.bipush 10, 2) := dkAt dk_J6_stringSize_0f7a4 14 rfl
theorem dj_J6_stringSize_0f7a4_19 : decode cJ6_stringSize_0f7a4 19 = .ok (.if_icmp .ge 23, 3) := dkAt dk_J6_stringSize_0f7a4 15 rfl
theorem dj_J6_stringSize_0f7a4_22 : decode cJ6_stringSize_0f7a4 22 = .ok (.iload_n 0, 1) := dkAt dk_J6_stringSize_0f7a4 16 rfl
theorem dj_J6_stringSize_0f7a4_23 : decode cJ6_stringSize_0f7a4 23 = .ok (.iload_n 2, 1) := dkAt dk_J6_stringSize_0f7a4 17 rfl
theorem dj_J6_stringSize_0f7a4_24 : decode cJ6_stringSize_0f7a4 24 = .ok (.if_icmp .le 7, 3) := dkAt dk_J6_stringSize_0f7a4 18 rfl
theorem dj_J6_stringSize_0f7a4_27 : decode cJ6_stringSize_0f7a4 27 = .ok (.iload_n 3, 1) := dkAt dk_J6_stringSize_0f7a4 19 rfl
theorem dj_J6_stringSize_0f7a4_28 : decode cJ6_stringSize_0f7a4 28 = .ok (.iload_n 1, 1) := dkAt dk_J6_stringSize_0f7a4 20 rfl
theorem dj_J6_stringSize_0f7a4_29 : decode cJ6_stringSize_0f7a4 29 = .ok (.iadd, 1) := dkAt dk_J6_stringSize_0f7a4 21 rfl
theorem dj_J6_stringSize_0f7a4_30 : decode cJ6_stringSize_0f7a4 30 = .ok (.ireturn, 1) := dkAt dk_J6_stringSize_0f7a4 22 rfl
theorem dj_J6_stringSize_0f7a4_31 : decode cJ6_stringSize_0f7a4 31 = .ok (.bipush 10, 2) := dkAt dk_J6_stringSize_0f7a4 23 rfl
theorem dj_J6_stringSize_0f7a4_33 : decode cJ6_stringSize_0f7a4 33 = .ok (.iload_n 2, 1) := dkAt dk_J6_stringSize_0f7a4 24 rfl
theorem dj_J6_stringSize_0f7a4_34 : decode cJ6_stringSize_0f7a4 34 = .ok (.imul, 1) := dkAt dk_J6_stringSize_0f7a4 25 rfl
theorem dj_J6_stringSize_0f7a4_35 : decode cJ6_stringSize_0f7a4 35 = .ok (.istore_n 2, 1) := dkAt dk_J6_stringSize_0f7a4 26 rfl
theorem dj_J6_stringSize_0f7a4_36 : decode cJ6_stringSize_0f7a4 36 = .ok (.iinc 3 1, 3) := dkAt dk_J6_stringSize_0f7a4 27 rfl
theorem dj_J6_stringSize_0f7a4_39 : decode cJ6_stringSize_0f7a4 39 = .ok (.goto (-23), 3) := dkAt dk_J6_stringSize_0f7a4 28 rfl
theorem dj_J6_stringSize_0f7a4_42 : decode cJ6_stringSize_0f7a4 42 = .ok (.bipush 10, 2) := dkAt dk_J6_stringSize_0f7a4 29 rfl
theorem dj_J6_stringSize_0f7a4_44 : decode cJ6_stringSize_0f7a4 44 = .ok (.iload_n 1, 1) := dkAt dk_J6_stringSize_0f7a4 30 rfl
theorem dj_J6_stringSize_0f7a4_45 : decode cJ6_stringSize_0f7a4 45 = .ok (.iadd, 1) := dkAt dk_J6_stringSize_0f7a4 31 rfl
theorem dj_J6_stringSize_0f7a4_46 : decode cJ6_stringSize_0f7a4 46 = .ok (.ireturn, 1) := dkAt dk_J6_stringSize_0f7a4 32 rfl
theorem mw_J9_abs_0f7a4 : MW yJ9_abs_0f7a4 cJ9_abs_0f7a4 1 (some .int) 1 := ⟨gd 54 (by decide +kernel) rfl, gd 698 (by decide +kernel) rfl, ⟨by decide, by decide⟩, by decide +kernel⟩
theorem ms_J9_abs_0f7a4 : Gd (.static yJ9_abs_0f7a4) := gd 697 (by decide +kernel) rfl
theorem dj_J9_abs_0f7a4_0 : decode cJ9_abs_0f7a4 0 = .ok (.iload_n 0, 1) := dkAt dk_J9_abs_0f7a4 0 rfl
theorem dj_J9_abs_0f7a4_1 : decode cJ9_abs_0f7a4 1 = .ok (.ifCond .ge 8, 3) := dkAt dk_J9_abs_0f7a4 1 rfl
theorem dj_J9_abs_0f7a4_4 : decode cJ9_abs_0f7a4 4 = .ok (.iload_n 0, 1) := dkAt dk_J9_abs_0f7a4 2 rfl
theorem dj_J9_abs_0f7a4_5 : decode cJ9_abs_0f7a4 5 = .ok (.ineg, 1) := dkAt dk_J9_abs_0f7a4 3 rfl
theorem dj_J9_abs_0f7a4_6 : decode cJ9_abs_0f7a4 6 = .ok (.goto 4, 3) := dkAt dk_J9_abs_0f7a4 4 rfl
theorem dj_J9_abs_0f7a4_9 : decode cJ9_abs_0f7a4 9 = .ok (.iload_n 0, 1) := dkAt dk_J9_abs_0f7a4 5 rfl
theorem dj_J9_abs_0f7a4_10 : decode cJ9_abs_0f7a4 10 = .ok (.ireturn, 1) := dkAt dk_J9_abs_0f7a4 6 rfl
theorem mw_J9_max_7cf53 : MW yJ9_max_7cf53 cJ9_max_7cf53 2 (some .int) 2 := ⟨gd 54 (by decide +kernel) rfl, gd 551 (by decide +kernel) rfl, ⟨by decide, by decide⟩, by decide +kernel⟩
theorem ms_J9_max_7cf53 : Gd (.static yJ9_max_7cf53) := gd 550 (by decide +kernel) rfl
theorem dj_J9_max_7cf53_0 : decode cJ9_max_7cf53 0 = .ok (.iload_n 0, 1) := dkAt dk_J9_max_7cf53 0 rfl
theorem dj_J9_max_7cf53_1 : decode cJ9_max_7cf53 1 = .ok (.iload_n 1, 1) := dkAt dk_J9_max_7cf53 1 rfl
theorem dj_J9_max_7cf53_2 : decode cJ9_max_7cf53 2 = .ok (.if_icmp .lt 7, 3) := dkAt dk_J9_max_7cf53 2 rfl
theorem dj_J9_max_7cf53_5 : decode cJ9_max_7cf53 5 = .ok (.iload_n 0, 1) := dkAt dk_J9_max_7cf53 3 rfl
theorem dj_J9_max_7cf53_6 : decode cJ9_max_7cf53 6 = .ok (.goto 4, 3) := dkAt dk_J9_max_7cf53 4 rfl
theorem dj_J9_max_7cf53_9 : decode cJ9_max_7cf53 9 = .ok (.iload_n 1, 1) := dkAt dk_J9_max_7cf53 5 rfl
theorem dj_J9_max_7cf53_10 : decode cJ9_max_7cf53 10 = .ok (.ireturn, 1) := dkAt dk_J9_max_7cf53 6 rfl
theorem mw_J9_max_f86c9 : MW yJ9_max_f86c9 cJ9_max_f86c9 4 (some .long) 2 := ⟨gd 54 (by decide +kernel) rfl, gd 1254 (by decide +kernel) rfl, ⟨by decide, by decide⟩, by decide +kernel⟩
theorem ms_J9_max_f86c9 : Gd (.static yJ9_max_f86c9) := gd 1253 (by decide +kernel) rfl
theorem dj_J9_max_f86c9_0 : decode cJ9_max_f86c9 0 = .ok (.lload_n 0, 1) := dkAt dk_J9_max_f86c9 0 rfl
theorem dj_J9_max_f86c9_1 : decode cJ9_max_f86c9 1 = .ok (.lload_n 2, 1) := dkAt dk_J9_max_f86c9 1 rfl
theorem dj_J9_max_f86c9_2 : decode cJ9_max_f86c9 2 = .ok (.lcmp, 1) := dkAt dk_J9_max_f86c9 2 rfl
theorem dj_J9_max_f86c9_3 : decode cJ9_max_f86c9 3 = .ok (.ifCond .lt 7, 3) := dkAt dk_J9_max_f86c9 3 rfl
theorem dj_J9_max_f86c9_6 : decode cJ9_max_f86c9 6 = .ok (.lload_n 0, 1) := dkAt dk_J9_max_f86c9 4 rfl
theorem dj_J9_max_f86c9_7 : decode cJ9_max_f86c9 7 = .ok (.goto 4, 3) := dkAt dk_J9_max_f86c9 5 rfl
theorem dj_J9_max_f86c9_10 : decode cJ9_max_f86c9 10 = .ok (.lload_n 2, 1) := dkAt dk_J9_max_f86c9 6 rfl
theorem dj_J9_max_f86c9_11 : decode cJ9_max_f86c9 11 = .ok (.lreturn, 1) := dkAt dk_J9_max_f86c9 7 rfl
theorem mw_J9_min_7cf53 : MW yJ9_min_7cf53 cJ9_min_7cf53 2 (some .int) 2 := ⟨gd 54 (by decide +kernel) rfl, gd 568 (by decide +kernel) rfl, ⟨by decide, by decide⟩, by decide +kernel⟩
theorem ms_J9_min_7cf53 : Gd (.static yJ9_min_7cf53) := gd 567 (by decide +kernel) rfl
theorem dj_J9_min_7cf53_0 : decode cJ9_min_7cf53 0 = .ok (.iload_n 0, 1) := dkAt dk_J9_min_7cf53 0 rfl
theorem dj_J9_min_7cf53_1 : decode cJ9_min_7cf53 1 = .ok (.iload_n 1, 1) := dkAt dk_J9_min_7cf53 1 rfl
theorem dj_J9_min_7cf53_2 : decode cJ9_min_7cf53 2 = .ok (.if_icmp .gt 7, 3) := dkAt dk_J9_min_7cf53 2 rfl
theorem dj_J9_min_7cf53_5 : decode cJ9_min_7cf53 5 = .ok (.iload_n 0, 1) := dkAt dk_J9_min_7cf53 3 rfl
theorem dj_J9_min_7cf53_6 : decode cJ9_min_7cf53 6 = .ok (.goto 4, 3) := dkAt dk_J9_min_7cf53 4 rfl
theorem dj_J9_min_7cf53_9 : decode cJ9_min_7cf53 9 = .ok (.iload_n 1, 1) := dkAt dk_J9_min_7cf53 5 rfl
theorem dj_J9_min_7cf53_10 : decode cJ9_min_7cf53 10 = .ok (.ireturn, 1) := dkAt dk_J9_min_7cf53 6 rfl
theorem mw_J0_init_81219 : MW yJ0_init_81219 cJ0_init_81219 2 none 1 := ⟨gd 51 (by decide +kernel) rfl, gd 1614 (by decide +kernel) rfl, ⟨by decide, by decide⟩, by decide +kernel⟩
theorem mn_J0_init_81219 : Gd (.instanceMethod yJ0_init_81219) := gd 1613 (by decide +kernel) rfl
theorem dj_J0_init_81219_0 : decode cJ0_init_81219 0 = .ok (.aload_n 0, 1) := dkAt dk_J0_init_81219 0 rfl
theorem dj_J0_init_81219_1 : decode cJ0_init_81219 1 = .ok (.aload_n 1, 1) := dkAt dk_J0_init_81219 1 rfl
theorem dj_J0_init_81219_2 : decode cJ0_init_81219 2 = .ok (.aconst_null, 1) := dkAt dk_J0_init_81219 2 rfl
theorem dj_J0_init_81219_3 : decode cJ0_init_81219 3 = .ok (.invokespecial 489, 3) := dkAt dk_J0_init_81219 3 rfl
theorem dj_J0_init_81219_6 : decode cJ0_init_81219 6 = .ok (.return_, 1) := dkAt dk_J0_init_81219 4 rfl
theorem mw_J0_length_8abf5 : MW yJ0_length_8abf5 cJ0_length_8abf5 1 (some .int) 0 := ⟨gd 51 (by decide +kernel) rfl, gd 504 (by decide +kernel) rfl, ⟨by decide, by decide⟩, by decide +kernel⟩
theorem mi_J0_length_8abf5 : (Gd (.instanceMethod yJ0_length_8abf5) ∧ Gd (.selects yJ0_length_8abf5.cls yJ0_length_8abf5 yJ0_length_8abf5)) := ⟨gd 502 (by decide +kernel) rfl, gd 503 (by decide +kernel) rfl⟩
theorem dj_J0_length_8abf5_0 : decode cJ0_length_8abf5 0 = .ok (.aload_n 0, 1) := dkAt dk_J0_length_8abf5 0 rfl
theorem dj_J0_length_8abf5_1 : decode cJ0_length_8abf5 1 = .ok (.getfield 9, 3) := dkAt dk_J0_length_8abf5 1 rfl
theorem dj_J0_length_8abf5_4 : decode cJ0_length_8abf5 4 = .ok (.arraylength, 1) := dkAt dk_J0_length_8abf5 2 rfl
theorem dj_J0_length_8abf5_5 : decode cJ0_length_8abf5 5 = .ok (.aload_n 0, 1) := dkAt dk_J0_length_8abf5 3 rfl
theorem dj_J0_length_8abf5_6 : decode cJ0_length_8abf5 6 = .ok (.invokevirtual 335, 3) := dkAt dk_J0_length_8abf5 4 rfl
theorem dj_J0_length_8abf5_9 : decode cJ0_length_8abf5 9 = .ok (.ishr, 1) := dkAt dk_J0_length_8abf5 5 rfl
theorem dj_J0_length_8abf5_10 : decode cJ0_length_8abf5 10 = .ok (.ireturn, 1) := dkAt dk_J0_length_8abf5 6 rfl
theorem mw_J0_charAt_5068e : MW yJ0_charAt_5068e cJ0_charAt_5068e 2 (some .char) 1 := ⟨gd 51 (by decide +kernel) rfl, gd 820 (by decide +kernel) rfl, ⟨by decide, by decide⟩, by decide +kernel⟩
theorem mi_J0_charAt_5068e : (Gd (.instanceMethod yJ0_charAt_5068e) ∧ Gd (.selects yJ0_charAt_5068e.cls yJ0_charAt_5068e yJ0_charAt_5068e)) := ⟨gd 818 (by decide +kernel) rfl, gd 819 (by decide +kernel) rfl⟩
theorem dj_J0_charAt_5068e_0 : decode cJ0_charAt_5068e 0 = .ok (.aload_n 0, 1) := dkAt dk_J0_charAt_5068e 0 rfl
theorem dj_J0_charAt_5068e_1 : decode cJ0_charAt_5068e 1 = .ok (.invokevirtual 492, 3) := dkAt dk_J0_charAt_5068e 1 rfl
theorem dj_J0_charAt_5068e_4 : decode cJ0_charAt_5068e 4 = .ok (.ifCond .eq 12, 3) := dkAt dk_J0_charAt_5068e 2 rfl
theorem dj_J0_charAt_5068e_7 : decode cJ0_charAt_5068e 7 = .ok (.aload_n 0, 1) := dkAt dk_J0_charAt_5068e 3 rfl
theorem dj_J0_charAt_5068e_8 : decode cJ0_charAt_5068e 8 = .ok (.getfield 9, 3) := dkAt dk_J0_charAt_5068e 4 rfl
theorem dj_J0_charAt_5068e_11 : decode cJ0_charAt_5068e 11 = .ok (.iload_n 1, 1) := dkAt dk_J0_charAt_5068e 5 rfl
theorem dj_J0_charAt_5068e_12 : decode cJ0_charAt_5068e 12 = .ok (.invokestatic 495, 3) := dkAt dk_J0_charAt_5068e 6 rfl
theorem dj_J0_charAt_5068e_15 : decode cJ0_charAt_5068e 15 = .ok (.ireturn, 1) := dkAt dk_J0_charAt_5068e 7 rfl
theorem dj_J0_charAt_5068e_16 : decode cJ0_charAt_5068e 16 = .ok (.aload_n 0, 1) := dkAt dk_J0_charAt_5068e 8 rfl
theorem dj_J0_charAt_5068e_17 : decode cJ0_charAt_5068e 17 = .ok (.getfield 9, 3) := dkAt dk_J0_charAt_5068e 9 rfl
theorem dj_J0_charAt_5068e_20 : decode cJ0_charAt_5068e 20 = .ok (.iload_n 1, 1) := dkAt dk_J0_charAt_5068e 10 rfl
theorem dj_J0_charAt_5068e_21 : decode cJ0_charAt_5068e 21 = .ok (.invokestatic 498, 3) := dkAt dk_J0_charAt_5068e 11 rfl
theorem dj_J0_charAt_5068e_24 : decode cJ0_charAt_5068e 24 = .ok (.ireturn, 1) := dkAt dk_J0_charAt_5068e 12 rfl
theorem mw_J0_getBytes_840e7 : MW yJ0_getBytes_840e7 cJ0_getBytes_840e7 4 none 3 := ⟨gd 51 (by decide +kernel) rfl, gd 634 (by decide +kernel) rfl, ⟨by decide, by decide⟩, by decide +kernel⟩
theorem mi_J0_getBytes_840e7 : (Gd (.instanceMethod yJ0_getBytes_840e7) ∧ Gd (.selects yJ0_getBytes_840e7.cls yJ0_getBytes_840e7 yJ0_getBytes_840e7)) := ⟨gd 632 (by decide +kernel) rfl, gd 633 (by decide +kernel) rfl⟩
theorem dj_J0_getBytes_840e7_0 : decode cJ0_getBytes_840e7 0 = .ok (.aload_n 0, 1) := dkAt dk_J0_getBytes_840e7 0 rfl
theorem dj_J0_getBytes_840e7_1 : decode cJ0_getBytes_840e7 1 = .ok (.invokevirtual 335, 3) := dkAt dk_J0_getBytes_840e7 1 rfl
theorem dj_J0_getBytes_840e7_4 : decode cJ0_getBytes_840e7 4 = .ok (.iload_n 3, 1) := dkAt dk_J0_getBytes_840e7 2 rfl
theorem dj_J0_getBytes_840e7_5 : decode cJ0_getBytes_840e7 5 = .ok (.if_icmp .ne 23, 3) := dkAt dk_J0_getBytes_840e7 3 rfl
theorem dj_J0_getBytes_840e7_8 : decode cJ0_getBytes_840e7 8 = .ok (.aload_n 0, 1) := dkAt dk_J0_getBytes_840e7 4 rfl
theorem dj_J0_getBytes_840e7_9 : decode cJ0_getBytes_840e7 9 = .ok (.getfield 9, 3) := dkAt dk_J0_getBytes_840e7 5 rfl
theorem dj_J0_getBytes_840e7_12 : decode cJ0_getBytes_840e7 12 = .ok (.iconst 0, 1) := dkAt dk_J0_getBytes_840e7 6 rfl
theorem dj_J0_getBytes_840e7_13 : decode cJ0_getBytes_840e7 13 = .ok (.aload_n 1, 1) := dkAt dk_J0_getBytes_840e7 7 rfl
theorem dj_J0_getBytes_840e7_14 : decode cJ0_getBytes_840e7 14 = .ok (.iload_n 2, 1) := dkAt dk_J0_getBytes_840e7 8 rfl
theorem dj_J0_getBytes_840e7_15 : decode cJ0_getBytes_840e7 15 = .ok (.iload_n 3, 1) := dkAt dk_J0_getBytes_840e7 9 rfl
theorem dj_J0_getBytes_840e7_16 : decode cJ0_getBytes_840e7 16 = .ok (.ishl, 1) := dkAt dk_J0_getBytes_840e7 10 rfl
theorem dj_J0_getBytes_840e7_17 : decode cJ0_getBytes_840e7 17 = .ok (.aload_n 0, 1) := dkAt dk_J0_getBytes_840e7 11 rfl
theorem dj_J0_getBytes_840e7_18 : decode cJ0_getBytes_840e7 18 = .ok (.getfield 9, 3) := dkAt dk_J0_getBytes_840e7 12 rfl
theorem dj_J0_getBytes_840e7_21 : decode cJ0_getBytes_840e7 21 = .ok (.arraylength, 1) := dkAt dk_J0_getBytes_840e7 13 rfl
theorem dj_J0_getBytes_840e7_22 : decode cJ0_getBytes_840e7 22 = .ok (.invokestatic 212, 3) := dkAt dk_J0_getBytes_840e7 14 rfl
theorem dj_J0_getBytes_840e7_25 : decode cJ0_getBytes_840e7 25 = .ok (.goto 18, 3) := dkAt dk_J0_getBytes_840e7 15 rfl
theorem dj_J0_getBytes_840e7_28 : decode cJ0_getBytes_840e7 28 = .ok (.aload_n 0, 1) := dkAt dk_J0_getBytes_840e7 16 rfl
theorem dj_J0_getBytes_840e7_29 : decode cJ0_getBytes_840e7 29 = .ok (.getfield 9, 3) := dkAt dk_J0_getBytes_840e7 17 rfl
theorem dj_J0_getBytes_840e7_32 : decode cJ0_getBytes_840e7 32 = .ok (.iconst 0, 1) := dkAt dk_J0_getBytes_840e7 18 rfl
theorem dj_J0_getBytes_840e7_33 : decode cJ0_getBytes_840e7 33 = .ok (.aload_n 1, 1) := dkAt dk_J0_getBytes_840e7 19 rfl
theorem dj_J0_getBytes_840e7_34 : decode cJ0_getBytes_840e7 34 = .ok (.iload_n 2, 1) := dkAt dk_J0_getBytes_840e7 20 rfl
theorem dj_J0_getBytes_840e7_35 : decode cJ0_getBytes_840e7 35 = .ok (.aload_n 0, 1) := dkAt dk_J0_getBytes_840e7 21 rfl
theorem dj_J0_getBytes_840e7_36 : decode cJ0_getBytes_840e7 36 = .ok (.getfield 9, 3) := dkAt dk_J0_getBytes_840e7 22 rfl
theorem dj_J0_getBytes_840e7_39 : decode cJ0_getBytes_840e7 39 = .ok (.arraylength, 1) := dkAt dk_J0_getBytes_840e7 23 rfl
theorem dj_J0_getBytes_840e7_40 : decode cJ0_getBytes_840e7 40 = .ok (.invokestatic 106, 3) := dkAt dk_J0_getBytes_840e7 24 rfl
theorem dj_J0_getBytes_840e7_43 : decode cJ0_getBytes_840e7 43 = .ok (.return_, 1) := dkAt dk_J0_getBytes_840e7 25 rfl
theorem mw_J0_init_db425 : MW yJ0_init_db425 cJ0_init_db425 5 none 2 := ⟨gd 51 (by decide +kernel) rfl, gd 1617 (by decide +kernel) rfl, ⟨by decide, by decide⟩, by decide +kernel⟩
theorem mn_J0_init_db425 : Gd (.instanceMethod yJ0_init_db425) := gd 1616 (by decide +kernel) rfl
theorem dj_J0_init_db425_0 : decode cJ0_init_db425 0 = .ok (.aload_n 0, 1) := dkAt dk_J0_init_db425 0 rfl
theorem dj_J0_init_db425_1 : decode cJ0_init_db425 1 = .ok (.invokespecial 1, 3) := dkAt dk_J0_init_db425 1 rfl
theorem dj_J0_init_db425_4 : decode cJ0_init_db425 4 = .ok (.aload_n 1, 1) := dkAt dk_J0_init_db425 2 rfl
theorem dj_J0_init_db425_5 : decode cJ0_init_db425 5 = .ok (.invokevirtual 552, 3) := dkAt dk_J0_init_db425 3 rfl
theorem dj_J0_init_db425_8 : decode cJ0_init_db425 8 = .ok (.astore_n 3, 1) := dkAt dk_J0_init_db425 4 rfl
theorem dj_J0_init_db425_9 : decode cJ0_init_db425 9 = .ok (.aload_n 1, 1) := dkAt dk_J0_init_db425 5 rfl
theorem dj_J0_init_db425_10 : decode cJ0_init_db425 10 = .ok (.invokevirtual 549, 3) := dkAt dk_J0_init_db425 6 rfl
theorem dj_J0_init_db425_13 : decode cJ0_init_db425 13 = .ok (.istore 4, 2) := dkAt dk_J0_init_db425 7 rfl
theorem dj_J0_init_db425_15 : decode cJ0_init_db425 15 = .ok (.aload_n 1, 1) := dkAt dk_J0_init_db425 8 rfl
theorem dj_J0_init_db425_16 : decode cJ0_init_db425 16 = .ok (.invokevirtual 1047, 3) := dkAt dk_J0_init_db425 9 rfl
theorem dj_J0_init_db425_19 : decode cJ0_init_db425 19 = .ok (.ifCond .eq 22, 3) := dkAt dk_J0_init_db425 10 rfl
theorem dj_J0_init_db425_22 : decode cJ0_init_db425 22 = .ok (.aload_n 0, 1) := dkAt dk_J0_init_db425 11 rfl
theorem dj_J0_init_db425_23 : decode cJ0_init_db425 23 = .ok (.iconst 0, 1) := dkAt dk_J0_init_db425 12 rfl
theorem dj_J0_init_db425_24 : decode cJ0_init_db425 24 = .ok (.putfield 15, 3) := dkAt dk_J0_init_db425 13 rfl
theorem dj_J0_init_db425_27 : decode cJ0_init_db425 27 = .ok (.aload_n 0, 1) := dkAt dk_J0_init_db425 14 rfl
theorem dj_J0_init_db425_28 : decode cJ0_init_db425 28 = .ok (.aload_n 3, 1) := dkAt dk_J0_init_db425 15 rfl
theorem dj_J0_init_db425_29 : decode cJ0_init_db425 29 = .ok (.iconst 0, 1) := dkAt dk_J0_init_db425 16 rfl
theorem dj_J0_init_db425_30 : decode cJ0_init_db425 30 = .ok (.iload 4, 2) := dkAt dk_J0_init_db425 17 rfl
theorem dj_J0_init_db425_32 : decode cJ0_init_db425 32 = .ok (.invokestatic 54, 3) := dkAt dk_J0_init_db425 18 rfl
theorem dj_J0_init_db425_35 : decode cJ0_init_db425 35 = .ok (.putfield 9, 3) := dkAt dk_J0_init_db425 19 rfl
theorem dj_J0_init_db425_38 : decode cJ0_init_db425 38 = .ok (.goto 59, 3) := dkAt dk_J0_init_db425 20 rfl
theorem dj_J0_init_db425_41 : decode cJ0_init_db425 41 = .ok (.getstatic 38, 3) := dkAt dk_J0_init_db425 21 rfl
theorem dj_J0_init_db425_44 : decode cJ0_init_db425 44 = .ok (.ifCond .eq 35, 3) := dkAt dk_J0_init_db425 22 rfl
theorem dj_J0_init_db425_47 : decode cJ0_init_db425 47 = .ok (.aload_n 1, 1) := dkAt dk_J0_init_db425 23 rfl
theorem dj_J0_init_db425_48 : decode cJ0_init_db425 48 = .ok (.getfield 1048, 3) := dkAt dk_J0_init_db425 24 rfl
theorem dj_J0_init_db425_51 : decode cJ0_init_db425 51 = .ok (.ifCond .eq 28, 3) := dkAt dk_J0_init_db425 25 rfl
theorem dj_J0_init_db425_54 : decode cJ0_init_db425 54 = .ok (.aload_n 0, 1) := dkAt dk_J0_init_db425 26 rfl
theorem dj_J0_init_db425_55 : decode cJ0_init_db425 55 = .ok (.aload_n 3, 1) := dkAt dk_J0_init_db425 27 rfl
theorem dj_J0_init_db425_56 : decode cJ0_init_db425 56 = .ok (.iconst 0, 1) := dkAt dk_J0_init_db425 28 rfl
theorem dj_J0_init_db425_57 : decode cJ0_init_db425 57 = .ok (.iload 4, 2) := dkAt dk_J0_init_db425 29 rfl
theorem dj_J0_init_db425_59 : decode cJ0_init_db425 59 = .ok (.invokestatic 1051, 3) := dkAt dk_J0_init_db425 30 rfl
theorem dj_J0_init_db425_62 : decode cJ0_init_db425 62 = .ok (.putfield 9, 3) := dkAt dk_J0_init_db425 31 rfl
theorem dj_J0_init_db425_65 : decode cJ0_init_db425 65 = .ok (.aload_n 0, 1) := dkAt dk_J0_init_db425 32 rfl
theorem dj_J0_init_db425_66 : decode cJ0_init_db425 66 = .ok (.aload_n 0, 1) := dkAt dk_J0_init_db425 33 rfl
theorem dj_J0_init_db425_67 : decode cJ0_init_db425 67 = .ok (.getfield 9, 3) := dkAt dk_J0_init_db425 34 rfl
theorem dj_J0_init_db425_70 : decode cJ0_init_db425 70 = .ok (.iload 4, 2) := dkAt dk_J0_init_db425 35 rfl
theorem dj_J0_init_db425_72 : decode cJ0_init_db425 72 = .ok (.invokestatic 47, 3) := dkAt dk_J0_init_db425 36 rfl
theorem dj_J0_init_db425_75 : decode cJ0_init_db425 75 = .ok (.putfield 15, 3) := dkAt dk_J0_init_db425 37 rfl
theorem dj_J0_init_db425_78 : decode cJ0_init_db425 78 = .ok (.return_, 1) := dkAt dk_J0_init_db425 38 rfl
theorem dj_J0_init_db425_79 : decode cJ0_init_db425 79 = .ok (.aload_n 0, 1) := dkAt dk_J0_init_db425 39 rfl
theorem dj_J0_init_db425_80 : decode cJ0_init_db425 80 = .ok (.iconst 1, 1) := dkAt dk_J0_init_db425 40 rfl
theorem dj_J0_init_db425_81 : decode cJ0_init_db425 81 = .ok (.putfield 15, 3) := dkAt dk_J0_init_db425 41 rfl
theorem dj_J0_init_db425_84 : decode cJ0_init_db425 84 = .ok (.aload_n 0, 1) := dkAt dk_J0_init_db425 42 rfl
theorem dj_J0_init_db425_85 : decode cJ0_init_db425 85 = .ok (.aload_n 3, 1) := dkAt dk_J0_init_db425 43 rfl
theorem dj_J0_init_db425_86 : decode cJ0_init_db425 86 = .ok (.iconst 0, 1) := dkAt dk_J0_init_db425 44 rfl
theorem dj_J0_init_db425_87 : decode cJ0_init_db425 87 = .ok (.iload 4, 2) := dkAt dk_J0_init_db425 45 rfl
theorem dj_J0_init_db425_89 : decode cJ0_init_db425 89 = .ok (.iconst 1, 1) := dkAt dk_J0_init_db425 46 rfl
theorem dj_J0_init_db425_90 : decode cJ0_init_db425 90 = .ok (.ishl, 1) := dkAt dk_J0_init_db425 47 rfl
theorem dj_J0_init_db425_91 : decode cJ0_init_db425 91 = .ok (.invokestatic 54, 3) := dkAt dk_J0_init_db425 48 rfl
theorem dj_J0_init_db425_94 : decode cJ0_init_db425 94 = .ok (.putfield 9, 3) := dkAt dk_J0_init_db425 49 rfl
theorem dj_J0_init_db425_97 : decode cJ0_init_db425 97 = .ok (.return_, 1) := dkAt dk_J0_init_db425 50 rfl
theorem mw_J0_coder_7d493 : MW yJ0_coder_7d493 cJ0_coder_7d493 1 (some .byte) 0 := ⟨gd 51 (by decide +kernel) rfl, gd 508 (by decide +kernel) rfl, ⟨by decide, by decide⟩, by decide +kernel⟩
theorem mi_J0_coder_7d493 : (Gd (.instanceMethod yJ0_coder_7d493) ∧ Gd (.selects yJ0_coder_7d493.cls yJ0_coder_7d493 yJ0_coder_7d493)) := ⟨gd 506 (by decide +kernel) rfl, gd 507 (by decide +kernel) rfl⟩
theorem dj_J0_coder_7d493_0 : decode cJ0_coder_7d493 0 = .ok (.getstatic 38, 3) := dkAt dk_J0_coder_7d493 0 rfl
theorem dj_J0_coder_7d493_3 : decode cJ0_coder_7d493 3 = .ok (.ifCond .eq 10, 3) := dkAt dk_J0_coder_7d493 1 rfl
theorem dj_J0_coder_7d493_6 : decode cJ0_coder_7d493 6 = .ok (.aload_n 0, 1) := dkAt dk_J0_coder_7d493 2 rfl
theorem dj_J0_coder_7d493_7 : decode cJ0_coder_7d493 7 = .ok (.getfield 15, 3) := dkAt dk_J0_coder_7d493 3 rfl
theorem dj_J0_coder_7d493_10 : decode cJ0_coder_7d493 10 = .ok (.goto 4, 3) := dkAt dk_J0_coder_7d493 4 rfl
theorem dj_J0_coder_7d493_13 : decode cJ0_coder_7d493 13 = .ok (.iconst 1, 1) := dkAt dk_J0_coder_7d493 5 rfl
theorem dj_J0_coder_7d493_14 : decode cJ0_coder_7d493 14 = .ok (.ireturn, 1) := dkAt dk_J0_coder_7d493 6 rfl
theorem mw_J0_isLatin1_aae02 : MW yJ0_isLatin1_aae02 cJ0_isLatin1_aae02 1 (some .boolean) 0 := ⟨gd 51 (by decide +kernel) rfl, gd 824 (by decide +kernel) rfl, ⟨by decide, by decide⟩, by decide +kernel⟩
theorem mi_J0_isLatin1_aae02 : (Gd (.instanceMethod yJ0_isLatin1_aae02) ∧ Gd (.selects yJ0_isLatin1_aae02.cls yJ0_isLatin1_aae02 yJ0_isLatin1_aae02)) := ⟨gd 822 (by decide +kernel) rfl, gd 823 (by decide +kernel) rfl⟩
theorem dj_J0_isLatin1_aae02_0 : decode cJ0_isLatin1_aae02 0 = .ok (.getstatic 38, 3) := dkAt dk_J0_isLatin1_aae02 0 rfl
theorem dj_J0_isLatin1_aae02_3 : decode cJ0_isLatin1_aae02 3 = .ok (.ifCond .eq 14, 3) := dkAt dk_J0_isLatin1_aae02 1 rfl
theorem dj_J0_isLatin1_aae02_6 : decode cJ0_isLatin1_aae02 6 = .ok (.aload_n 0, 1) := dkAt dk_J0_isLatin1_aae02 2 rfl
theorem dj_J0_isLatin1_aae02_7 : decode cJ0_isLatin1_aae02 7 = .ok (.getfield 15, 3) := dkAt dk_J0_isLatin1_aae02 3 rfl
theorem dj_J0_isLatin1_aae02_10 : decode cJ0_isLatin1_aae02 10 = .ok (.ifCond .ne 7, 3) := dkAt dk_J0_isLatin1_aae02 4 rfl
theorem dj_J0_isLatin1_aae02_13 : decode cJ0_isLatin1_aae02 13 = .ok (.iconst 1, 1) := dkAt dk_J0_isLatin1_aae02 5 rfl
theorem dj_J0_isLatin1_aae02_14 : decode cJ0_isLatin1_aae02 14 = .ok (.goto 4, 3) := dkAt dk_J0_isLatin1_aae02 6 rfl
theorem dj_J0_isLatin1_aae02_17 : decode cJ0_isLatin1_aae02 17 = .ok (.iconst 0, 1) := dkAt dk_J0_isLatin1_aae02 7 rfl
theorem dj_J0_isLatin1_aae02_18 : decode cJ0_isLatin1_aae02 18 = .ok (.ireturn, 1) := dkAt dk_J0_isLatin1_aae02 8 rfl
theorem mw_J0_checkIndex_df160 : MW yJ0_checkIndex_df160 cJ0_checkIndex_df160 2 none 2 := ⟨gd 51 (by decide +kernel) rfl, gd 718 (by decide +kernel) rfl, ⟨by decide, by decide⟩, by decide +kernel⟩
theorem ms_J0_checkIndex_df160 : Gd (.static yJ0_checkIndex_df160) := gd 717 (by decide +kernel) rfl
theorem dj_J0_checkIndex_df160_0 : decode cJ0_checkIndex_df160 0 = .ok (.iload_n 0, 1) := dkAt dk_J0_checkIndex_df160 0 rfl
theorem dj_J0_checkIndex_df160_1 : decode cJ0_checkIndex_df160 1 = .ok (.iload_n 1, 1) := dkAt dk_J0_checkIndex_df160 1 rfl
theorem dj_J0_checkIndex_df160_2 : decode cJ0_checkIndex_df160 2 = .ok (.getstatic 1053, 3) := dkAt dk_J0_checkIndex_df160 2 rfl
theorem dj_J0_checkIndex_df160_5 : decode cJ0_checkIndex_df160 5 = .ok (.invokestatic 1059, 3) := dkAt dk_J0_checkIndex_df160 3 rfl
theorem dj_J0_checkIndex_df160_8 : decode cJ0_checkIndex_df160 8 = .ok (.pop, 1) := dkAt dk_J0_checkIndex_df160 4 rfl
theorem dj_J0_checkIndex_df160_9 : decode cJ0_checkIndex_df160 9 = .ok (.return_, 1) := dkAt dk_J0_checkIndex_df160 5 rfl
theorem mw_J0_checkBoundsOffCount_cabcc : MW yJ0_checkBoundsOffCount_cabcc cJ0_checkBoundsOffCount_cabcc 3 (some .int) 3 := ⟨gd 51 (by decide +kernel) rfl, gd 627 (by decide +kernel) rfl, ⟨by decide, by decide⟩, by decide +kernel⟩
theorem ms_J0_checkBoundsOffCount_cabcc : Gd (.static yJ0_checkBoundsOffCount_cabcc) := gd 626 (by decide +kernel) rfl
theorem dj_J0_checkBoundsOffCount_cabcc_0 : decode cJ0_checkBoundsOffCount_cabcc 0 = .ok (.iload_n 0, 1) := dkAt dk_J0_checkBoundsOffCount_cabcc 0 rfl
theorem dj_J0_checkBoundsOffCount_cabcc_1 : decode cJ0_checkBoundsOffCount_cabcc 1 = .ok (.iload_n 1, 1) := dkAt dk_J0_checkBoundsOffCount_cabcc 1 rfl
theorem dj_J0_checkBoundsOffCount_cabcc_2 : decode cJ0_checkBoundsOffCount_cabcc 2 = .ok (.iload_n 2, 1) := dkAt dk_J0_checkBoundsOffCount_cabcc 2 rfl
theorem dj_J0_checkBoundsOffCount_cabcc_3 : decode cJ0_checkBoundsOffCount_cabcc 3 = .ok (.getstatic 1053, 3) := dkAt dk_J0_checkBoundsOffCount_cabcc 3 rfl
theorem dj_J0_checkBoundsOffCount_cabcc_6 : decode cJ0_checkBoundsOffCount_cabcc 6 = .ok (.invokestatic 1065, 3) := dkAt dk_J0_checkBoundsOffCount_cabcc 4 rfl
theorem dj_J0_checkBoundsOffCount_cabcc_9 : decode cJ0_checkBoundsOffCount_cabcc 9 = .ok (.ireturn, 1) := dkAt dk_J0_checkBoundsOffCount_cabcc 5 rfl
theorem mw_J0_checkBoundsBeginEnd_23922 : MW yJ0_checkBoundsBeginEnd_23922 cJ0_checkBoundsBeginEnd_23922 3 none 3 := ⟨gd 51 (by decide +kernel) rfl, gd 589 (by decide +kernel) rfl, ⟨by decide, by decide⟩, by decide +kernel⟩
theorem ms_J0_checkBoundsBeginEnd_23922 : Gd (.static yJ0_checkBoundsBeginEnd_23922) := gd 588 (by decide +kernel) rfl
theorem dj_J0_checkBoundsBeginEnd_23922_0 : decode cJ0_checkBoundsBeginEnd_23922 0 = .ok (.iload_n 0, 1) := dkAt dk_J0_checkBoundsBeginEnd_23922 0 rfl
theorem dj_J0_checkBoundsBeginEnd_23922_1 : decode cJ0_checkBoundsBeginEnd_23922 1 = .ok (.iload_n 1, 1) := dkAt dk_J0_checkBoundsBeginEnd_23922 1 rfl
theorem dj_J0_checkBoundsBeginEnd_23922_2 : decode cJ0_checkBoundsBeginEnd_23922 2 = .ok (.iload_n 2, 1) := dkAt dk_J0_checkBoundsBeginEnd_23922 2 rfl
theorem dj_J0_checkBoundsBeginEnd_23922_3 : decode cJ0_checkBoundsBeginEnd_23922 3 = .ok (.getstatic 1053, 3) := dkAt dk_J0_checkBoundsBeginEnd_23922 3 rfl
theorem dj_J0_checkBoundsBeginEnd_23922_6 : decode cJ0_checkBoundsBeginEnd_23922 6 = .ok (.invokestatic 1062, 3) := dkAt dk_J0_checkBoundsBeginEnd_23922 4 rfl
theorem dj_J0_checkBoundsBeginEnd_23922_9 : decode cJ0_checkBoundsBeginEnd_23922 9 = .ok (.pop, 1) := dkAt dk_J0_checkBoundsBeginEnd_23922 5 rfl
theorem dj_J0_checkBoundsBeginEnd_23922_10 : decode cJ0_checkBoundsBeginEnd_23922 10 = .ok (.return_, 1) := dkAt dk_J0_checkBoundsBeginEnd_23922 6 rfl
theorem mw_J4_init_da8c8 : MW yJ4_init_da8c8 cJ4_init_da8c8 1 none 0 := ⟨gd 50 (by decide +kernel) rfl, gd 1646 (by decide +kernel) rfl, ⟨by decide, by decide⟩, by decide +kernel⟩
theorem mn_J4_init_da8c8 : Gd (.instanceMethod yJ4_init_da8c8) := gd 1645 (by decide +kernel) rfl
theorem dj_J4_init_da8c8_0 : decode cJ4_init_da8c8 0 = .ok (.aload_n 0, 1) := dkAt dk_J4_init_da8c8 0 rfl
theorem dj_J4_init_da8c8_1 : decode cJ4_init_da8c8 1 = .ok (.bipush 16, 2) := dkAt dk_J4_init_da8c8 1 rfl
theorem dj_J4_init_da8c8_3 : decode cJ4_init_da8c8 3 = .ok (.invokespecial 1, 3) := dkAt dk_J4_init_da8c8 2 rfl
theorem dj_J4_init_da8c8_6 : decode cJ4_init_da8c8 6 = .ok (.return_, 1) := dkAt dk_J4_init_da8c8 3 rfl
theorem mw_J4_init_a7421 : MW yJ4_init_a7421 cJ4_init_a7421 2 none 1 := ⟨gd 50 (by decide +kernel) rfl, gd 496 (by decide +kernel) rfl, ⟨by decide, by decide⟩, by decide +kernel⟩
theorem mn_J4_init_a7421 : Gd (.instanceMethod yJ4_init_a7421) := gd 495 (by decide +kernel) rfl
theorem dj_J4_init_a7421_0 : decode cJ4_init_a7421 0 = .ok (.aload_n 0, 1) := dkAt dk_J4_init_a7421 0 rfl
theorem dj_J4_init_a7421_1 : decode cJ4_init_a7421 1 = .ok (.aload_n 1, 1) := dkAt dk_J4_init_a7421 1 rfl
theorem dj_J4_init_a7421_2 : decode cJ4_init_a7421 2 = .ok (.invokespecial 7, 3) := dkAt dk_J4_init_a7421 2 rfl
theorem dj_J4_init_a7421_5 : decode cJ4_init_a7421 5 = .ok (.return_, 1) := dkAt dk_J4_init_a7421 3 rfl
theorem mw_J4_append_15ec4 : MW yJ4_append_15ec4 cJ4_append_15ec4 2 (some (.object "java/lang/StringBuilder")) 1 := ⟨gd 50 (by decide +kernel) rfl, gd 530 (by decide +kernel) rfl, ⟨by decide, by decide⟩, by decide +kernel⟩
theorem mi_J4_append_15ec4 : (Gd (.instanceMethod yJ4_append_15ec4) ∧ Gd (.selects yJ4_append_15ec4.cls yJ4_append_15ec4 yJ4_append_15ec4)) := ⟨gd 528 (by decide +kernel) rfl, gd 529 (by decide +kernel) rfl⟩
theorem dj_J4_append_15ec4_0 : decode cJ4_append_15ec4 0 = .ok (.aload_n 0, 1) := dkAt dk_J4_append_15ec4 0 rfl
theorem dj_J4_append_15ec4_1 : decode cJ4_append_15ec4 1 = .ok (.aload_n 1, 1) := dkAt dk_J4_append_15ec4 1 rfl
theorem dj_J4_append_15ec4_2 : decode cJ4_append_15ec4 2 = .ok (.invokespecial 29, 3) := dkAt dk_J4_append_15ec4 2 rfl
theorem dj_J4_append_15ec4_5 : decode cJ4_append_15ec4 5 = .ok (.pop, 1) := dkAt dk_J4_append_15ec4 3 rfl
theorem dj_J4_append_15ec4_6 : decode cJ4_append_15ec4 6 = .ok (.aload_n 0, 1) := dkAt dk_J4_append_15ec4 4 rfl
theorem dj_J4_append_15ec4_7 : decode cJ4_append_15ec4 7 = .ok (.areturn, 1) := dkAt dk_J4_append_15ec4 5 rfl
theorem mw_J4_append_cf468 : MW yJ4_append_cf468 cJ4_append_cf468 2 (some (.object "java/lang/StringBuilder")) 1 := ⟨gd 50 (by decide +kernel) rfl, gd 703 (by decide +kernel) rfl, ⟨by decide, by decide⟩, by decide +kernel⟩
theorem mi_J4_append_cf468 : (Gd (.instanceMethod yJ4_append_cf468) ∧ Gd (.selects yJ4_append_cf468.cls yJ4_append_cf468 yJ4_append_cf468)) := ⟨gd 701 (by decide +kernel) rfl, gd 702 (by decide +kernel) rfl⟩
theorem dj_J4_append_cf468_0 : decode cJ4_append_cf468 0 = .ok (.aload_n 0, 1) := dkAt dk_J4_append_cf468 0 rfl
theorem dj_J4_append_cf468_1 : decode cJ4_append_cf468 1 = .ok (.iload_n 1, 1) := dkAt dk_J4_append_cf468 1 rfl
theorem dj_J4_append_cf468_2 : decode cJ4_append_cf468 2 = .ok (.invokespecial 50, 3) := dkAt dk_J4_append_cf468 2 rfl
theorem dj_J4_append_cf468_5 : decode cJ4_append_cf468 5 = .ok (.pop, 1) := dkAt dk_J4_append_cf468 3 rfl
theorem dj_J4_append_cf468_6 : decode cJ4_append_cf468 6 = .ok (.aload_n 0, 1) := dkAt dk_J4_append_cf468 4 rfl
theorem dj_J4_append_cf468_7 : decode cJ4_append_cf468 7 = .ok (.areturn, 1) := dkAt dk_J4_append_cf468 5 rfl
theorem mw_J4_append_bf812 : MW yJ4_append_bf812 cJ4_append_bf812 2 (some (.object "java/lang/StringBuilder")) 1 := ⟨gd 50 (by decide +kernel) rfl, gd 663 (by decide +kernel) rfl, ⟨by decide, by decide⟩, by decide +kernel⟩
theorem mi_J4_append_bf812 : (Gd (.instanceMethod yJ4_append_bf812) ∧ Gd (.selects yJ4_append_bf812.cls yJ4_append_bf812 yJ4_append_bf812)) := ⟨gd 661 (by decide +kernel) rfl, gd 662 (by decide +kernel) rfl⟩
theorem dj_J4_append_bf812_0 : decode cJ4_append_bf812 0 = .ok (.aload_n 0, 1) := dkAt dk_J4_append_bf812 0 rfl
theorem dj_J4_append_bf812_1 : decode cJ4_append_bf812 1 = .ok (.iload_n 1, 1) := dkAt dk_J4_append_bf812 1 rfl
theorem dj_J4_append_bf812_2 : decode cJ4_append_bf812 2 = .ok (.invokespecial 53, 3) := dkAt dk_J4_append_bf812 2 rfl
theorem dj_J4_append_bf812_5 : decode cJ4_append_bf812 5 = .ok (.pop, 1) := dkAt dk_J4_append_bf812 3 rfl
theorem dj_J4_append_bf812_6 : decode cJ4_append_bf812 6 = .ok (.aload_n 0, 1) := dkAt dk_J4_append_bf812 4 rfl
theorem dj_J4_append_bf812_7 : decode cJ4_append_bf812 7 = .ok (.areturn, 1) := dkAt dk_J4_append_bf812 5 rfl
theorem mw_J4_toString_0e30d : MW yJ4_toString_0e30d cJ4_toString_0e30d 1 (some (.object "java/lang/String")) 0 := ⟨gd 50 (by decide +kernel) rfl, gd 1609 (by decide +kernel) rfl, ⟨by decide, by decide⟩, by decide +kernel⟩
theorem mi_J4_toString_0e30d : (Gd (.instanceMethod yJ4_toString_0e30d) ∧ Gd (.selects yJ4_toString_0e30d.cls yJ4_toString_0e30d yJ4_toString_0e30d)) := ⟨gd 1607 (by decide +kernel) rfl, gd 1608 (by decide +kernel) rfl⟩
theorem dj_J4_toString_0e30d_0 : decode cJ4_toString_0e30d 0 = .ok (.new 18, 3) := dkAt dk_J4_toString_0e30d 0 rfl
theorem dj_J4_toString_0e30d_3 : decode cJ4_toString_0e30d 3 = .ok (.dup, 1) := dkAt dk_J4_toString_0e30d 1 rfl
theorem dj_J4_toString_0e30d_4 : decode cJ4_toString_0e30d 4 = .ok (.aload_n 0, 1) := dkAt dk_J4_toString_0e30d 2 rfl
theorem dj_J4_toString_0e30d_5 : decode cJ4_toString_0e30d 5 = .ok (.invokespecial 137, 3) := dkAt dk_J4_toString_0e30d 3 rfl
theorem dj_J4_toString_0e30d_8 : decode cJ4_toString_0e30d 8 = .ok (.areturn, 1) := dkAt dk_J4_toString_0e30d 4 rfl
theorem mw_J4_append_cf1ce : MW yJ4_append_cf1ce cJ4_append_cf1ce 2 (some (.object "java/lang/AbstractStringBuilder")) 1 := ⟨gd 50 (by decide +kernel) rfl, gd 526 (by decide +kernel) rfl, ⟨by decide, by decide⟩, by decide +kernel⟩
theorem mn_J4_append_cf1ce : Gd (.instanceMethod yJ4_append_cf1ce) := gd 525 (by decide +kernel) rfl
theorem dj_J4_append_cf1ce_0 : decode cJ4_append_cf1ce 0 = .ok (.aload_n 0, 1) := dkAt dk_J4_append_cf1ce 0 rfl
theorem dj_J4_append_cf1ce_1 : decode cJ4_append_cf1ce 1 = .ok (.aload_n 1, 1) := dkAt dk_J4_append_cf1ce 1 rfl
theorem dj_J4_append_cf1ce_2 : decode cJ4_append_cf1ce 2 = .ok (.invokevirtual 23, 3) := dkAt dk_J4_append_cf1ce 2 rfl
theorem dj_J4_append_cf1ce_5 : decode cJ4_append_cf1ce 5 = .ok (.areturn, 1) := dkAt dk_J4_append_cf1ce 3 rfl
theorem mw_J4_length_8abf5 : MW yJ4_length_8abf5 cJ4_length_8abf5 1 (some .int) 0 := ⟨gd 50 (by decide +kernel) rfl, gd 1629 (by decide +kernel) rfl, ⟨by decide, by decide⟩, by decide +kernel⟩
theorem mn_J4_length_8abf5 : Gd (.instanceMethod yJ4_length_8abf5) := gd 1628 (by decide +kernel) rfl
theorem dj_J4_length_8abf5_0 : decode cJ4_length_8abf5 0 = .ok (.aload_n 0, 1) := dkAt dk_J4_length_8abf5 0 rfl
theorem dj_J4_length_8abf5_1 : decode cJ4_length_8abf5 1 = .ok (.invokespecial 343, 3) := dkAt dk_J4_length_8abf5 1 rfl
theorem dj_J4_length_8abf5_4 : decode cJ4_length_8abf5 4 = .ok (.ireturn, 1) := dkAt dk_J4_length_8abf5 2 rfl
theorem mw_J1_charAt_3b067 : MW yJ1_charAt_3b067 cJ1_charAt_3b067 2 (some .char) 2 := ⟨gd 58 (by decide +kernel) rfl, gd 827 (by decide +kernel) rfl, ⟨by decide, by decide⟩, by decide +kernel⟩
theorem ms_J1_charAt_3b067 : Gd (.static yJ1_charAt_3b067) := gd 826 (by decide +kernel) rfl
theorem dj_J1_charAt_3b067_0 : decode cJ1_charAt_3b067 0 = .ok (.iload_n 1, 1) := dkAt dk_J1_charAt_3b067 0 rfl
theorem dj_J1_charAt_3b067_1 : decode cJ1_charAt_3b067 1 = .ok (.aload_n 0, 1) := dkAt dk_J1_charAt_3b067 1 rfl
theorem dj_J1_charAt_3b067_2 : decode cJ1_charAt_3b067 2 = .ok (.arraylength, 1) := dkAt dk_J1_charAt_3b067 2 rfl
theorem dj_J1_charAt_3b067_3 : decode cJ1_charAt_3b067 3 = .ok (.invokestatic 9, 3) := dkAt dk_J1_charAt_3b067 3 rfl
theorem dj_J1_charAt_3b067_6 : decode cJ1_charAt_3b067 6 = .ok (.aload_n 0, 1) := dkAt dk_J1_charAt_3b067 4 rfl
theorem dj_J1_charAt_3b067_7 : decode cJ1_charAt_3b067 7 = .ok (.iload_n 1, 1) := dkAt dk_J1_charAt_3b067 5 rfl
theorem dj_J1_charAt_3b067_8 : decode cJ1_charAt_3b067 8 = .ok (.baload, 1) := dkAt dk_J1_charAt_3b067 6 rfl
theorem dj_J1_charAt_3b067_9 : decode cJ1_charAt_3b067 9 = .ok (.sipush 255, 3) := dkAt dk_J1_charAt_3b067 7 rfl
theorem dj_J1_charAt_3b067_12 : decode cJ1_charAt_3b067 12 = .ok (.iand, 1) := dkAt dk_J1_charAt_3b067 8 rfl
theorem dj_J1_charAt_3b067_13 : decode cJ1_charAt_3b067 13 = .ok (.i2c, 1) := dkAt dk_J1_charAt_3b067 9 rfl
theorem dj_J1_charAt_3b067_14 : decode cJ1_charAt_3b067 14 = .ok (.ireturn, 1) := dkAt dk_J1_charAt_3b067 10 rfl
theorem mw_J1_canEncode_fc78d : MW yJ1_canEncode_fc78d cJ1_canEncode_fc78d 1 (some .boolean) 1 := ⟨gd 58 (by decide +kernel) rfl, gd 709 (by decide +kernel) rfl, ⟨by decide, by decide⟩, by decide +kernel⟩
theorem ms_J1_canEncode_fc78d : Gd (.static yJ1_canEncode_fc78d) := gd 708 (by decide +kernel) rfl
theorem dj_J1_canEncode_fc78d_0 : decode cJ1_canEncode_fc78d 0 = .ok (.iload_n 0, 1) := dkAt dk_J1_canEncode_fc78d 0 rfl
theorem dj_J1_canEncode_fc78d_1 : decode cJ1_canEncode_fc78d 1 = .ok (.sipush 255, 3) := dkAt dk_J1_canEncode_fc78d 1 rfl
theorem dj_J1_canEncode_fc78d_4 : decode cJ1_canEncode_fc78d 4 = .ok (.if_icmp .gt 7, 3) := dkAt dk_J1_canEncode_fc78d 2 rfl
theorem dj_J1_canEncode_fc78d_7 : decode cJ1_canEncode_fc78d 7 = .ok (.iconst 1, 1) := dkAt dk_J1_canEncode_fc78d 3 rfl
theorem dj_J1_canEncode_fc78d_8 : decode cJ1_canEncode_fc78d 8 = .ok (.goto 4, 3) := dkAt dk_J1_canEncode_fc78d 4 rfl
theorem dj_J1_canEncode_fc78d_11 : decode cJ1_canEncode_fc78d 11 = .ok (.iconst 0, 1) := dkAt dk_J1_canEncode_fc78d 5 rfl
theorem dj_J1_canEncode_fc78d_12 : decode cJ1_canEncode_fc78d 12 = .ok (.ireturn, 1) := dkAt dk_J1_canEncode_fc78d 6 rfl
theorem mw_J1_inflate_0e8fd : MW yJ1_inflate_0e8fd cJ1_inflate_0e8fd 5 none 5 := ⟨gd 58 (by decide +kernel) rfl, gd 618 (by decide +kernel) rfl, ⟨by decide, by decide⟩, by decide +kernel⟩
theorem ms_J1_inflate_0e8fd : Gd (.static yJ1_inflate_0e8fd) := gd 617 (by decide +kernel) rfl
theorem dj_J1_inflate_0e8fd_0 : decode cJ1_inflate_0e8fd 0 = .ok (.aload_n 0, 1) := dkAt dk_J1_inflate_0e8fd 0 rfl
theorem dj_J1_inflate_0e8fd_1 : decode cJ1_inflate_0e8fd 1 = .ok (.iload_n 1, 1) := dkAt dk_J1_inflate_0e8fd 1 rfl
theorem dj_J1_inflate_0e8fd_2 : decode cJ1_inflate_0e8fd 2 = .ok (.aload_n 2, 1) := dkAt dk_J1_inflate_0e8fd 2 rfl
theorem dj_J1_inflate_0e8fd_3 : decode cJ1_inflate_0e8fd 3 = .ok (.iload_n 3, 1) := dkAt dk_J1_inflate_0e8fd 3 rfl
theorem dj_J1_inflate_0e8fd_4 : decode cJ1_inflate_0e8fd 4 = .ok (.iload 4, 2) := dkAt dk_J1_inflate_0e8fd 4 rfl
theorem dj_J1_inflate_0e8fd_6 : decode cJ1_inflate_0e8fd 6 = .ok (.invokestatic 240, 3) := dkAt dk_J1_inflate_0e8fd 5 rfl
theorem dj_J1_inflate_0e8fd_9 : decode cJ1_inflate_0e8fd 9 = .ok (.return_, 1) := dkAt dk_J1_inflate_0e8fd 6 rfl
theorem mw_J2_newBytesFor_77867 : MW yJ2_newBytesFor_77867 cJ2_newBytesFor_77867 1 (some (.array .byte)) 1 := ⟨gd 52 (by decide +kernel) rfl, gd 516 (by decide +kernel) rfl, ⟨by decide, by decide⟩, by decide +kernel⟩
theorem ms_J2_newBytesFor_77867 : Gd (.static yJ2_newBytesFor_77867) := gd 515 (by decide +kernel) rfl
theorem dj_J2_newBytesFor_77867_0 : decode cJ2_newBytesFor_77867 0 = .ok (.iload_n 0, 1) := dkAt dk_J2_newBytesFor_77867 0 rfl
theorem dj_J2_newBytesFor_77867_1 : decode cJ2_newBytesFor_77867 1 = .ok (.invokestatic 11, 3) := dkAt dk_J2_newBytesFor_77867 1 rfl
theorem dj_J2_newBytesFor_77867_4 : decode cJ2_newBytesFor_77867 4 = .ok (.newarray .byte, 2) := dkAt dk_J2_newBytesFor_77867 2 rfl
theorem dj_J2_newBytesFor_77867_6 : decode cJ2_newBytesFor_77867 6 = .ok (.areturn, 1) := dkAt dk_J2_newBytesFor_77867 3 rfl
theorem mw_J2_newBytesLength_0f7a4 : MW yJ2_newBytesLength_0f7a4 cJ2_newBytesLength_0f7a4 1 (some .int) 1 := ⟨gd 52 (by decide +kernel) rfl, gd 519 (by decide +kernel) rfl, ⟨by decide, by decide⟩, by decide +kernel⟩
theorem ms_J2_newBytesLength_0f7a4 : Gd (.static yJ2_newBytesLength_0f7a4) := gd 518 (by decide +kernel) rfl
theorem dj_J2_newBytesLength_0f7a4_0 : decode cJ2_newBytesLength_0f7a4 0 = .ok (.iload_n 0, 1) := dkAt dk_J2_newBytesLength_0f7a4 0 rfl
theorem dj_J2_newBytesLength_0f7a4_1 : decode cJ2_newBytesLength_0f7a4 1 = .ok (.ifCond .ge 11, 3) := dkAt dk_J2_newBytesLength_0f7a4 1 rfl
theorem dj_J2_newBytesLength_0f7a4_4 : decode cJ2_newBytesLength_0f7a4 4 = .ok (.new 17, 3) := dkAt dk_J2_newBytesLength_0f7a4 2 rfl
theorem dj_J2_newBytesLength_0f7a4_7 : decode cJ2_newBytesLength_0f7a4 7 = .ok (.dup, 1) := dkAt dk_J2_newBytesLength_0f7a4 3 rfl
theorem dj_J2_newBytesLength_0f7a4_8 : decode cJ2_newBytesLength_0f7a4 8 = .ok (.invokespecial 19, 3) := dkAt dk_J2_newBytesLength_0f7a4 4 rfl
theorem dj_J2_newBytesLength_0f7a4_11 : decode cJ2_newBytesLength_0f7a4 11 = .ok (.athrow, 1) := dkAt dk_J2_newBytesLength_0f7a4 5 rfl
theorem dj_J2_newBytesLength_0f7a4_12 : decode cJ2_newBytesLength_0f7a4 12 = .ok (.iload_n 0, 1) := dkAt dk_J2_newBytesLength_0f7a4 6 rfl
theorem dj_J2_newBytesLength_0f7a4_13 : decode cJ2_newBytesLength_0f7a4 13 = .ok (.ldc 20, 2) := dkAt dk_J2_newBytesLength_0f7a4 7 rfl
theorem dj_J2_newBytesLength_0f7a4_15 : decode cJ2_newBytesLength_0f7a4 15 = .ok (.if_icmp .lt 40, 3) := dkAt dk_J2_newBytesLength_0f7a4 8 rfl
theorem dj_J2_newBytesLength_0f7a4_18 : decode cJ2_newBytesLength_0f7a4 18 = .ok (.new 21, 3) := dkAt dk_J2_newBytesLength_0f7a4 9 rfl
theorem dj_J2_newBytesLength_0f7a4_21 : decode cJ2_newBytesLength_0f7a4 21 = .ok (.dup, 1) := dkAt dk_J2_newBytesLength_0f7a4 10 rfl
theorem dj_J2_newBytesLength_0f7a4_22 : decode cJ2_newBytesLength_0f7a4 22 = .ok (.new 23, 3) := dkAt dk_J2_newBytesLength_0f7a4 11 rfl
theorem dj_J2_newBytesLength_0f7a4_25 : decode cJ2_newBytesLength_0f7a4 25 = .ok (.dup, 1) := dkAt dk_J2_newBytesLength_0f7a4 12 rfl
theorem dj_J2_newBytesLength_0f7a4_26 : decode cJ2_newBytesLength_0f7a4 26 = .ok (.invokespecial 25, 3) := dkAt dk_J2_newBytesLength_0f7a4 13 rfl
theorem dj_J2_newBytesLength_0f7a4_29 : decode cJ2_newBytesLength_0f7a4 29 = .ok (.ldc 26, 2) := dkAt dk_J2_newBytesLength_0f7a4 14 rfl
theorem dj_J2_newBytesLength_0f7a4_31 : decode cJ2_newBytesLength_0f7a4 31 = .ok (.invokevirtual 28, 3) := dkAt dk_J2_newBytesLength_0f7a4 15 rfl
theorem dj_J2_newBytesLength_0f7a4_34 : decode cJ2_newBytesLength_0f7a4 34 = .ok (.iload_n 0, 1) := dkAt dk_J2_newBytesLength_0f7a4 16 rfl
theorem dj_J2_newBytesLength_0f7a4_35 : decode cJ2_newBytesLength_0f7a4 35 = .ok (.invokevirtual 32, 3) := dkAt dk_J2_newBytesLength_0f7a4 17 rfl
theorem dj_J2_newBytesLength_0f7a4_38 : decode cJ2_newBytesLength_0f7a4 38 = .ok (.ldc 35, 2) := dkAt dk_J2_newBytesLength_0f7a4 18 rfl
theorem dj_J2_newBytesLength_0f7a4_40 : decode cJ2_newBytesLength_0f7a4 40 = .ok (.invokevirtual 28, 3) := dkAt dk_J2_newBytesLength_0f7a4 19 rfl
theorem dj_J2_newBytesLength_0f7a4_43 : decode cJ2_newBytesLength_0f7a4 43 = .ok (.ldc 20, 2) := dkAt dk_J2_newBytesLength_0f7a4 20 rfl
theorem dj_J2_newBytesLength_0f7a4_45 : decode cJ2_newBytesLength_0f7a4 45 = .ok (.invokevirtual 32, 3) := dkAt dk_J2_newBytesLength_0f7a4 21 rfl
theorem dj_J2_newBytesLength_0f7a4_48 : decode cJ2_newBytesLength_0f7a4 48 = .ok (.invokevirtual 37, 3) := dkAt dk_J2_newBytesLength_0f7a4 22 rfl
theorem dj_J2_newBytesLength_0f7a4_51 : decode cJ2_newBytesLength_0f7a4 51 = .ok (.invokespecial 41, 3) := dkAt dk_J2_newBytesLength_0f7a4 23 rfl
theorem dj_J2_newBytesLength_0f7a4_54 : decode cJ2_newBytesLength_0f7a4 54 = .ok (.athrow, 1) := dkAt dk_J2_newBytesLength_0f7a4 24 rfl
theorem dj_J2_newBytesLength_0f7a4_55 : decode cJ2_newBytesLength_0f7a4 55 = .ok (.iload_n 0, 1) := dkAt dk_J2_newBytesLength_0f7a4 25 rfl
theorem dj_J2_newBytesLength_0f7a4_56 : decode cJ2_newBytesLength_0f7a4 56 = .ok (.iconst 1, 1) := dkAt dk_J2_newBytesLength_0f7a4 26 rfl
theorem dj_J2_newBytesLength_0f7a4_57 : decode cJ2_newBytesLength_0f7a4 57 = .ok (.ishl, 1) := dkAt dk_J2_newBytesLength_0f7a4 27 rfl
theorem dj_J2_newBytesLength_0f7a4_58 : decode cJ2_newBytesLength_0f7a4 58 = .ok (.ireturn, 1) := dkAt dk_J2_newBytesLength_0f7a4 28 rfl
theorem mw_J2_putChar_b72d1 : MW yJ2_putChar_b72d1 cJ2_putChar_b72d1 3 none 3 := ⟨gd 52 (by decide +kernel) rfl, gd 597 (by decide +kernel) rfl, ⟨by decide, by decide⟩, by decide +kernel⟩
theorem ms_J2_putChar_b72d1 : Gd (.static yJ2_putChar_b72d1) := gd 596 (by decide +kernel) rfl
theorem dj_J2_putChar_b72d1_0 : decode cJ2_putChar_b72d1 0 = .ok (.getstatic 44, 3) := dkAt dk_J2_putChar_b72d1 0 rfl
theorem dj_J2_putChar_b72d1_3 : decode cJ2_putChar_b72d1 3 = .ok (.ifCond .ne 25, 3) := dkAt dk_J2_putChar_b72d1 1 rfl
theorem dj_J2_putChar_b72d1_6 : decode cJ2_putChar_b72d1 6 = .ok (.iload_n 1, 1) := dkAt dk_J2_putChar_b72d1 2 rfl
theorem dj_J2_putChar_b72d1_7 : decode cJ2_putChar_b72d1 7 = .ok (.ifCond .lt 11, 3) := dkAt dk_J2_putChar_b72d1 3 rfl
theorem dj_J2_putChar_b72d1_10 : decode cJ2_putChar_b72d1 10 = .ok (.iload_n 1, 1) := dkAt dk_J2_putChar_b72d1 4 rfl
theorem dj_J2_putChar_b72d1_11 : decode cJ2_putChar_b72d1 11 = .ok (.aload_n 0, 1) := dkAt dk_J2_putChar_b72d1 5 rfl
theorem dj_J2_putChar_b72d1_12 : decode cJ2_putChar_b72d1 12 = .ok (.invokestatic 48, 3) := dkAt dk_J2_putChar_b72d1 6 rfl
theorem dj_J2_putChar_b72d1_15 : decode cJ2_putChar_b72d1 15 = .ok (.if_icmp .lt 13, 3) := dkAt dk_J2_putChar_b72d1 7 rfl
theorem dj_J2_putChar_b72d1_18 : decode cJ2_putChar_b72d1 18 = .ok (.new 52, 3) := dkAt dk_J2_putChar_b72d1 8 rfl
theorem dj_J2_putChar_b72d1_21 : decode cJ2_putChar_b72d1 21 = .ok (.dup, 1) := dkAt dk_J2_putChar_b72d1 9 rfl
theorem dj_J2_putChar_b72d1_22 : decode cJ2_putChar_b72d1 22 = .ok (.ldc 54, 2) := dkAt dk_J2_putChar_b72d1 10 rfl
theorem dj_J2_putChar_b72d1_24 : decode cJ2_putChar_b72d1 24 = .ok (.invokespecial 56, 3) := dkAt dk_J2_putChar_b72d1 11 rfl
theorem dj_J2_putChar_b72d1_27 : decode cJ2_putChar_b72d1 27 = .ok (.athrow, 1) := dkAt dk_J2_putChar_b72d1 12 rfl
theorem dj_J2_putChar_b72d1_28 : decode cJ2_putChar_b72d1 28 = .ok (.iload_n 1, 1) := dkAt dk_J2_putChar_b72d1 13 rfl
theorem dj_J2_putChar_b72d1_29 : decode cJ2_putChar_b72d1 29 = .ok (.iconst 1, 1) := dkAt dk_J2_putChar_b72d1 14 rfl
theorem dj_J2_putChar_b72d1_30 : decode cJ2_putChar_b72d1 30 = .ok (.ishl, 1) := dkAt dk_J2_putChar_b72d1 15 rfl
theorem dj_J2_putChar_b72d1_31 : decode cJ2_putChar_b72d1 31 = .ok (.istore_n 1, 1) := dkAt dk_J2_putChar_b72d1 16 rfl
theorem dj_J2_putChar_b72d1_32 : decode cJ2_putChar_b72d1 32 = .ok (.aload_n 0, 1) := dkAt dk_J2_putChar_b72d1 17 rfl
theorem dj_J2_putChar_b72d1_33 : decode cJ2_putChar_b72d1 33 = .ok (.iload_n 1, 1) := dkAt dk_J2_putChar_b72d1 18 rfl
theorem dj_J2_putChar_b72d1_34 : decode cJ2_putChar_b72d1 34 = .ok (.iinc 1 1, 3) := dkAt dk_J2_putChar_b72d1 19 rfl
theorem dj_J2_putChar_b72d1_37 : decode cJ2_putChar_b72d1 37 = .ok (.iload_n 2, 1) := dkAt dk_J2_putChar_b72d1 20 rfl
theorem dj_J2_putChar_b72d1_38 : decode cJ2_putChar_b72d1 38 = .ok (.getstatic 59, 3) := dkAt dk_J2_putChar_b72d1 21 rfl
theorem dj_J2_putChar_b72d1_41 : decode cJ2_putChar_b72d1 41 = .ok (.ishr, 1) := dkAt dk_J2_putChar_b72d1 22 rfl
theorem dj_J2_putChar_b72d1_42 : decode cJ2_putChar_b72d1 42 = .ok (.i2b, 1) := dkAt dk_J2_putChar_b72d1 23 rfl
theorem dj_J2_putChar_b72d1_43 : decode cJ2_putChar_b72d1 43 = .ok (.bastore, 1) := dkAt dk_J2_putChar_b72d1 24 rfl
theorem dj_J2_putChar_b72d1_44 : decode cJ2_putChar_b72d1 44 = .ok (.aload_n 0, 1) := dkAt dk_J2_putChar_b72d1 25 rfl
theorem dj_J2_putChar_b72d1_45 : decode cJ2_putChar_b72d1 45 = .ok (.iload_n 1, 1) := dkAt dk_J2_putChar_b72d1 26 rfl
theorem dj_J2_putChar_b72d1_46 : decode cJ2_putChar_b72d1 46 = .ok (.iload_n 2, 1) := dkAt dk_J2_putChar_b72d1 27 rfl
theorem dj_J2_putChar_b72d1_47 : decode cJ2_putChar_b72d1 47 = .ok (.getstatic 63, 3) := dkAt dk_J2_putChar_b72d1 28 rfl
theorem dj_J2_putChar_b72d1_50 : decode cJ2_putChar_b72d1 50 = .ok (.ishr, 1) := dkAt dk_J2_putChar_b72d1 29 rfl
theorem dj_J2_putChar_b72d1_51 : decode cJ2_putChar_b72d1 51 = .ok (.i2b, 1) := dkAt dk_J2_putChar_b72d1 30 rfl
theorem dj_J2_putChar_b72d1_52 : decode cJ2_putChar_b72d1 52 = .ok (.bastore, 1) := dkAt dk_J2_putChar_b72d1 31 rfl
theorem dj_J2_putChar_b72d1_53 : decode cJ2_putChar_b72d1 53 = .ok (.return_, 1) := dkAt dk_J2_putChar_b72d1 32 rfl
theorem mw_J2_getChar_3b067 : MW yJ2_getChar_3b067 cJ2_getChar_3b067 2 (some .char) 2 := ⟨gd 52 (by decide +kernel) rfl, gd 834 (by decide +kernel) rfl, ⟨by decide, by decide⟩, by decide +kernel⟩
theorem ms_J2_getChar_3b067 : Gd (.static yJ2_getChar_3b067) := gd 833 (by decide +kernel) rfl
theorem dj_J2_getChar_3b067_0 : decode cJ2_getChar_3b067 0 = .ok (.getstatic 44, 3) := dkAt dk_J2_getChar_3b067 0 rfl
theorem dj_J2_getChar_3b067_3 : decode cJ2_getChar_3b067 3 = .ok (.ifCond .ne 25, 3) := dkAt dk_J2_getChar_3b067 1 rfl
theorem dj_J2_getChar_3b067_6 : decode cJ2_getChar_3b067 6 = .ok (.iload_n 1, 1) := dkAt dk_J2_getChar_3b067 2 rfl
theorem dj_J2_getChar_3b067_7 : decode cJ2_getChar_3b067 7 = .ok (.ifCond .lt 11, 3) := dkAt dk_J2_getChar_3b067 3 rfl
theorem dj_J2_getChar_3b067_10 : decode cJ2_getChar_3b067 10 = .ok (.iload_n 1, 1) := dkAt dk_J2_getChar_3b067 4 rfl
theorem dj_J2_getChar_3b067_11 : decode cJ2_getChar_3b067 11 = .ok (.aload_n 0, 1) := dkAt dk_J2_getChar_3b067 5 rfl
theorem dj_J2_getChar_3b067_12 : decode cJ2_getChar_3b067 12 = .ok (.invokestatic 48, 3) := dkAt dk_J2_getChar_3b067 6 rfl
theorem dj_J2_getChar_3b067_15 : decode cJ2_getChar_3b067 15 = .ok (.if_icmp .lt 13, 3) := dkAt dk_J2_getChar_3b067 7 rfl
theorem dj_J2_getChar_3b067_18 : decode cJ2_getChar_3b067 18 = .ok (.new 52, 3) := dkAt dk_J2_getChar_3b067 8 rfl
theorem dj_J2_getChar_3b067_21 : decode cJ2_getChar_3b067 21 = .ok (.dup, 1) := dkAt dk_J2_getChar_3b067 9 rfl
theorem dj_J2_getChar_3b067_22 : decode cJ2_getChar_3b067 22 = .ok (.ldc 54, 2) := dkAt dk_J2_getChar_3b067 10 rfl
theorem dj_J2_getChar_3b067_24 : decode cJ2_getChar_3b067 24 = .ok (.invokespecial 56, 3) := dkAt dk_J2_getChar_3b067 11 rfl
theorem dj_J2_getChar_3b067_27 : decode cJ2_getChar_3b067 27 = .ok (.athrow, 1) := dkAt dk_J2_getChar_3b067 12 rfl
theorem dj_J2_getChar_3b067_28 : decode cJ2_getChar_3b067 28 = .ok (.iload_n 1, 1) := dkAt dk_J2_getChar_3b067 13 rfl
theorem dj_J2_getChar_3b067_29 : decode cJ2_getChar_3b067 29 = .ok (.iconst 1, 1) := dkAt dk_J2_getChar_3b067 14 rfl
theorem dj_J2_getChar_3b067_30 : decode cJ2_getChar_3b067 30 = .ok (.ishl, 1) := dkAt dk_J2_getChar_3b067 15 rfl
theorem dj_J2_getChar_3b067_31 : decode cJ2_getChar_3b067 31 = .ok (.istore_n 1, 1) := dkAt dk_J2_getChar_3b067 16 rfl
theorem dj_J2_getChar_3b067_32 : decode cJ2_getChar_3b067 32 = .ok (.aload_n 0, 1) := dkAt dk_J2_getChar_3b067 17 rfl
theorem dj_J2_getChar_3b067_33 : decode cJ2_getChar_3b067 33 = .ok (.iload_n 1, 1) := dkAt dk_J2_getChar_3b067 18 rfl
theorem dj_J2_getChar_3b067_34 : decode cJ2_getChar_3b067 34 = .ok (.iinc 1 1, 3) := dkAt dk_J2_getChar_3b067 19 rfl
theorem dj_J2_getChar_3b067_37 : decode cJ2_getChar_3b067 37 = .ok (.baload, 1) := dkAt dk_J2_getChar_3b067 20 rfl
theorem dj_J2_getChar_3b067_38 : decode cJ2_getChar_3b067 38 = .ok (.sipush 255, 3) := dkAt dk_J2_getChar_3b067 21 rfl
theorem dj_J2_getChar_3b067_41 : decode cJ2_getChar_3b067 41 = .ok (.iand, 1) := dkAt dk_J2_getChar_3b067 22 rfl
theorem dj_J2_getChar_3b067_42 : decode cJ2_getChar_3b067 42 = .ok (.getstatic 59, 3) := dkAt dk_J2_getChar_3b067 23 rfl
theorem dj_J2_getChar_3b067_45 : decode cJ2_getChar_3b067 45 = .ok (.ishl, 1) := dkAt dk_J2_getChar_3b067 24 rfl
theorem dj_J2_getChar_3b067_46 : decode cJ2_getChar_3b067 46 = .ok (.aload_n 0, 1) := dkAt dk_J2_getChar_3b067 25 rfl
theorem dj_J2_getChar_3b067_47 : decode cJ2_getChar_3b067 47 = .ok (.iload_n 1, 1) := dkAt dk_J2_getChar_3b067 26 rfl
theorem dj_J2_getChar_3b067_48 : decode cJ2_getChar_3b067 48 = .ok (.baload, 1) := dkAt dk_J2_getChar_3b067 27 rfl
theorem dj_J2_getChar_3b067_49 : decode cJ2_getChar_3b067 49 = .ok (.sipush 255, 3) := dkAt dk_J2_getChar_3b067 28 rfl
theorem dj_J2_getChar_3b067_52 : decode cJ2_getChar_3b067 52 = .ok (.iand, 1) := dkAt dk_J2_getChar_3b067 29 rfl
theorem dj_J2_getChar_3b067_53 : decode cJ2_getChar_3b067 53 = .ok (.getstatic 63, 3) := dkAt dk_J2_getChar_3b067 30 rfl
theorem dj_J2_getChar_3b067_56 : decode cJ2_getChar_3b067 56 = .ok (.ishl, 1) := dkAt dk_J2_getChar_3b067 31 rfl
theorem dj_J2_getChar_3b067_57 : decode cJ2_getChar_3b067 57 = .ok (.ior, 1) := dkAt dk_J2_getChar_3b067 32 rfl
theorem dj_J2_getChar_3b067_58 : decode cJ2_getChar_3b067 58 = .ok (.i2c, 1) := dkAt dk_J2_getChar_3b067 33 rfl
theorem dj_J2_getChar_3b067_59 : decode cJ2_getChar_3b067 59 = .ok (.ireturn, 1) := dkAt dk_J2_getChar_3b067 34 rfl
theorem mw_J2_length_9d52b : MW yJ2_length_9d52b cJ2_length_9d52b 1 (some .int) 1 := ⟨gd 52 (by decide +kernel) rfl, gd 586 (by decide +kernel) rfl, ⟨by decide, by decide⟩, by decide +kernel⟩
theorem ms_J2_length_9d52b : Gd (.static yJ2_length_9d52b) := gd 585 (by decide +kernel) rfl
theorem dj_J2_length_9d52b_0 : decode cJ2_length_9d52b 0 = .ok (.aload_n 0, 1) := dkAt dk_J2_length_9d52b 0 rfl
theorem dj_J2_length_9d52b_1 : decode cJ2_length_9d52b 1 = .ok (.arraylength, 1) := dkAt dk_J2_length_9d52b 1 rfl
theorem dj_J2_length_9d52b_2 : decode cJ2_length_9d52b 2 = .ok (.iconst 1, 1) := dkAt dk_J2_length_9d52b 2 rfl
theorem dj_J2_length_9d52b_3 : decode cJ2_length_9d52b 3 = .ok (.ishr, 1) := dkAt dk_J2_length_9d52b 3 rfl
theorem dj_J2_length_9d52b_4 : decode cJ2_length_9d52b 4 = .ok (.ireturn, 1) := dkAt dk_J2_length_9d52b 4 rfl
theorem mw_J2_coderFromArrayLen_85cad : MW yJ2_coderFromArrayLen_85cad cJ2_coderFromArrayLen_85cad 2 (some .byte) 2 := ⟨gd 52 (by decide +kernel) rfl, gd 1664 (by decide +kernel) rfl, ⟨by decide, by decide⟩, by decide +kernel⟩
theorem ms_J2_coderFromArrayLen_85cad : Gd (.static yJ2_coderFromArrayLen_85cad) := gd 1663 (by decide +kernel) rfl
theorem dj_J2_coderFromArrayLen_85cad_0 : decode cJ2_coderFromArrayLen_85cad 0 = .ok (.iload_n 1, 1) := dkAt dk_J2_coderFromArrayLen_85cad 0 rfl
theorem dj_J2_coderFromArrayLen_85cad_1 : decode cJ2_coderFromArrayLen_85cad 1 = .ok (.aload_n 0, 1) := dkAt dk_J2_coderFromArrayLen_85cad 1 rfl
theorem dj_J2_coderFromArrayLen_85cad_2 : decode cJ2_coderFromArrayLen_85cad 2 = .ok (.arraylength, 1) := dkAt dk_J2_coderFromArrayLen_85cad 2 rfl
theorem dj_J2_coderFromArrayLen_85cad_3 : decode cJ2_coderFromArrayLen_85cad 3 = .ok (.isub, 1) := dkAt dk_J2_coderFromArrayLen_85cad 3 rfl
theorem dj_J2_coderFromArrayLen_85cad_4 : decode cJ2_coderFromArrayLen_85cad 4 = .ok (.bipush 31, 2) := dkAt dk_J2_coderFromArrayLen_85cad 4 rfl
theorem dj_J2_coderFromArrayLen_85cad_6 : decode cJ2_coderFromArrayLen_85cad 6 = .ok (.iushr, 1) := dkAt dk_J2_coderFromArrayLen_85cad 5 rfl
theorem dj_J2_coderFromArrayLen_85cad_7 : decode cJ2_coderFromArrayLen_85cad 7 = .ok (.i2b, 1) := dkAt dk_J2_coderFromArrayLen_85cad 6 rfl
theorem dj_J2_coderFromArrayLen_85cad_8 : decode cJ2_coderFromArrayLen_85cad 8 = .ok (.ireturn, 1) := dkAt dk_J2_coderFromArrayLen_85cad 7 rfl
theorem mw_J2_compress_39247 : MW yJ2_compress_39247 cJ2_compress_39247 6 (some (.array .byte)) 3 := ⟨gd 52 (by decide +kernel) rfl, gd 1657 (by decide +kernel) rfl, ⟨by decide, by decide⟩, by decide +kernel⟩
theorem ms_J2_compress_39247 : Gd (.static yJ2_compress_39247) := gd 1656 (by decide +kernel) rfl
theorem dj_J2_compress_39247_0 : decode cJ2_compress_39247 0 = .ok (.iload_n 2, 1) := dkAt dk_J2_compress_39247 0 rfl
theorem dj_J2_compress_39247_1 : decode cJ2_compress_39247 1 = .ok (.newarray .byte, 2) := dkAt dk_J2_compress_39247 1 rfl
theorem dj_J2_compress_39247_3 : decode cJ2_compress_39247 3 = .ok (.astore_n 3, 1) := dkAt dk_J2_compress_39247 2 rfl
theorem dj_J2_compress_39247_4 : decode cJ2_compress_39247 4 = .ok (.aload_n 0, 1) := dkAt dk_J2_compress_39247 3 rfl
theorem dj_J2_compress_39247_5 : decode cJ2_compress_39247 5 = .ok (.iload_n 1, 1) := dkAt dk_J2_compress_39247 4 rfl
theorem dj_J2_compress_39247_6 : decode cJ2_compress_39247 6 = .ok (.aload_n 3, 1) := dkAt dk_J2_compress_39247 5 rfl
theorem dj_J2_compress_39247_7 : decode cJ2_compress_39247 7 = .ok (.iconst 0, 1) := dkAt dk_J2_compress_39247 6 rfl
theorem dj_J2_compress_39247_8 : decode cJ2_compress_39247 8 = .ok (.iload_n 2, 1) := dkAt dk_J2_compress_39247 7 rfl
theorem dj_J2_compress_39247_9 : decode cJ2_compress_39247 9 = .ok (.invokestatic 123, 3) := dkAt dk_J2_compress_39247 8 rfl
theorem dj_J2_compress_39247_12 : decode cJ2_compress_39247 12 = .ok (.istore 4, 2) := dkAt dk_J2_compress_39247 9 rfl
theorem dj_J2_compress_39247_14 : decode cJ2_compress_39247 14 = .ok (.iload 4, 2) := dkAt dk_J2_compress_39247 10 rfl
theorem dj_J2_compress_39247_16 : decode cJ2_compress_39247 16 = .ok (.iload_n 2, 1) := dkAt dk_J2_compress_39247 11 rfl
theorem dj_J2_compress_39247_17 : decode cJ2_compress_39247 17 = .ok (.if_icmp .eq 47, 3) := dkAt dk_J2_compress_39247 12 rfl
theorem dj_J2_compress_39247_20 : decode cJ2_compress_39247 20 = .ok (.aload_n 0, 1) := dkAt dk_J2_compress_39247 13 rfl
theorem dj_J2_compress_39247_21 : decode cJ2_compress_39247 21 = .ok (.iload_n 1, 1) := dkAt dk_J2_compress_39247 14 rfl
theorem dj_J2_compress_39247_22 : decode cJ2_compress_39247 22 = .ok (.iconst 1, 1) := dkAt dk_J2_compress_39247 15 rfl
theorem dj_J2_compress_39247_23 : decode cJ2_compress_39247 23 = .ok (.ishl, 1) := dkAt dk_J2_compress_39247 16 rfl
theorem dj_J2_compress_39247_24 : decode cJ2_compress_39247 24 = .ok (.iload_n 1, 1) := dkAt dk_J2_compress_39247 17 rfl
theorem dj_J2_compress_39247_25 : decode cJ2_compress_39247 25 = .ok (.iload_n 2, 1) := dkAt dk_J2_compress_39247 18 rfl
theorem dj_J2_compress_39247_26 : decode cJ2_compress_39247 26 = .ok (.iadd, 1) := dkAt dk_J2_compress_39247 19 rfl
theorem dj_J2_compress_39247_27 : decode cJ2_compress_39247 27 = .ok (.invokestatic 11, 3) := dkAt dk_J2_compress_39247 20 rfl
theorem dj_J2_compress_39247_30 : decode cJ2_compress_39247 30 = .ok (.invokestatic 126, 3) := dkAt dk_J2_compress_39247 21 rfl
theorem dj_J2_compress_39247_33 : decode cJ2_compress_39247 33 = .ok (.astore 5, 2) := dkAt dk_J2_compress_39247 22 rfl
theorem dj_J2_compress_39247_35 : decode cJ2_compress_39247 35 = .ok (.aload 5, 2) := dkAt dk_J2_compress_39247 23 rfl
theorem dj_J2_compress_39247_37 : decode cJ2_compress_39247 37 = .ok (.iload 4, 2) := dkAt dk_J2_compress_39247 24 rfl
theorem dj_J2_compress_39247_39 : decode cJ2_compress_39247 39 = .ok (.invokestatic 71, 3) := dkAt dk_J2_compress_39247 25 rfl
theorem dj_J2_compress_39247_42 : decode cJ2_compress_39247 42 = .ok (.sipush 255, 3) := dkAt dk_J2_compress_39247 26 rfl
theorem dj_J2_compress_39247_45 : decode cJ2_compress_39247 45 = .ok (.if_icmp .gt 16, 3) := dkAt dk_J2_compress_39247 27 rfl
theorem dj_J2_compress_39247_48 : decode cJ2_compress_39247 48 = .ok (.aload 5, 2) := dkAt dk_J2_compress_39247 28 rfl
theorem dj_J2_compress_39247_50 : decode cJ2_compress_39247 50 = .ok (.iconst 0, 1) := dkAt dk_J2_compress_39247 29 rfl
theorem dj_J2_compress_39247_51 : decode cJ2_compress_39247 51 = .ok (.aload_n 3, 1) := dkAt dk_J2_compress_39247 30 rfl
theorem dj_J2_compress_39247_52 : decode cJ2_compress_39247 52 = .ok (.iconst 0, 1) := dkAt dk_J2_compress_39247 31 rfl
theorem dj_J2_compress_39247_53 : decode cJ2_compress_39247 53 = .ok (.iload_n 2, 1) := dkAt dk_J2_compress_39247 32 rfl
theorem dj_J2_compress_39247_54 : decode cJ2_compress_39247 54 = .ok (.invokestatic 123, 3) := dkAt dk_J2_compress_39247 33 rfl
theorem dj_J2_compress_39247_57 : decode cJ2_compress_39247 57 = .ok (.iload_n 2, 1) := dkAt dk_J2_compress_39247 34 rfl
theorem dj_J2_compress_39247_58 : decode cJ2_compress_39247 58 = .ok (.if_icmp .eq 6, 3) := dkAt dk_J2_compress_39247 35 rfl
theorem dj_J2_compress_39247_61 : decode cJ2_compress_39247 61 = .ok (.aload 5, 2) := dkAt dk_J2_compress_39247 36 rfl
theorem dj_J2_compress_39247_63 : decode cJ2_compress_39247 63 = .ok (.areturn, 1) := dkAt dk_J2_compress_39247 37 rfl
theorem dj_J2_compress_39247_64 : decode cJ2_compress_39247 64 = .ok (.aload_n 3, 1) := dkAt dk_J2_compress_39247 38 rfl
theorem dj_J2_compress_39247_65 : decode cJ2_compress_39247 65 = .ok (.areturn, 1) := dkAt dk_J2_compress_39247 39 rfl
theorem mw_J2_compress_5af95 : MW yJ2_compress_5af95 cJ2_compress_5af95 7 (some .int) 5 := ⟨gd 52 (by decide +kernel) rfl, gd 1660 (by decide +kernel) rfl, ⟨by decide, by decide⟩, by decide +kernel⟩
theorem ms_J2_compress_5af95 : Gd (.static yJ2_compress_5af95) := gd 1659 (by decide +kernel) rfl
theorem dj_J2_compress_5af95_0 : decode cJ2_compress_5af95 0 = .ok (.iload_n 1, 1) := dkAt dk_J2_compress_5af95 0 rfl
theorem dj_J2_compress_5af95_1 : decode cJ2_compress_5af95 1 = .ok (.iload 4, 2) := dkAt dk_J2_compress_5af95 1 rfl
theorem dj_J2_compress_5af95_3 : decode cJ2_compress_5af95 3 = .ok (.aload_n 0, 1) := dkAt dk_J2_compress_5af95 2 rfl
theorem dj_J2_compress_5af95_4 : decode cJ2_compress_5af95 4 = .ok (.invokestatic 173, 3) := dkAt dk_J2_compress_5af95 3 rfl
theorem dj_J2_compress_5af95_7 : decode cJ2_compress_5af95 7 = .ok (.iconst 0, 1) := dkAt dk_J2_compress_5af95 4 rfl
theorem dj_J2_compress_5af95_8 : decode cJ2_compress_5af95 8 = .ok (.istore 5, 2) := dkAt dk_J2_compress_5af95 5 rfl
theorem dj_J2_compress_5af95_10 : decode cJ2_compress_5af95 10 = .ok (.iload 5, 2) := dkAt dk_J2_compress_5af95 6 rfl
theorem dj_J2_compress_5af95_12 : decode cJ2_compress_5af95 12 = .ok (.iload 4, 2) := dkAt dk_J2_compress_5af95 7 rfl
theorem dj_J2_compress_5af95_14 : decode cJ2_compress_5af95 14 = .ok (.if_icmp .ge 39, 3) := dkAt dk_J2_compress_5af95 8 rfl
theorem dj_J2_compress_5af95_17 : decode cJ2_compress_5af95 17 = .ok (.aload_n 0, 1) := dkAt dk_J2_compress_5af95 9 rfl
theorem dj_J2_compress_5af95_18 : decode cJ2_compress_5af95 18 = .ok (.iload_n 1, 1) := dkAt dk_J2_compress_5af95 10 rfl
theorem dj_J2_compress_5af95_19 : decode cJ2_compress_5af95 19 = .ok (.invokestatic 71, 3) := dkAt dk_J2_compress_5af95 11 rfl
theorem dj_J2_compress_5af95_22 : decode cJ2_compress_5af95 22 = .ok (.istore 6, 2) := dkAt dk_J2_compress_5af95 12 rfl
theorem dj_J2_compress_5af95_24 : decode cJ2_compress_5af95 24 = .ok (.iload 6, 2) := dkAt dk_J2_compress_5af95 13 rfl
theorem dj_J2_compress_5af95_26 : decode cJ2_compress_5af95 26 = .ok (.sipush 255, 3) := dkAt dk_J2_compress_5af95 14 rfl
theorem dj_J2_compress_5af95_29 : decode cJ2_compress_5af95 29 = .ok (.if_icmp .le 6, 3) := dkAt dk_J2_compress_5af95 15 rfl
theorem dj_J2_compress_5af95_32 : decode cJ2_compress_5af95 32 = .ok (.iload 5, 2) := dkAt dk_J2_compress_5af95 16 rfl
theorem dj_J2_compress_5af95_34 : decode cJ2_compress_5af95 34 = .ok (.ireturn, 1) := dkAt dk_J2_compress_5af95 17 rfl
theorem dj_J2_compress_5af95_35 : decode cJ2_compress_5af95 35 = .ok (.aload_n 2, 1) := dkAt dk_J2_compress_5af95 18 rfl
theorem dj_J2_compress_5af95_36 : decode cJ2_compress_5af95 36 = .ok (.iload_n 3, 1) := dkAt dk_J2_compress_5af95 19 rfl
theorem dj_J2_compress_5af95_37 : decode cJ2_compress_5af95 37 = .ok (.iload 6, 2) := dkAt dk_J2_compress_5af95 20 rfl
theorem dj_J2_compress_5af95_39 : decode cJ2_compress_5af95 39 = .ok (.i2b, 1) := dkAt dk_J2_compress_5af95 21 rfl
theorem dj_J2_compress_5af95_40 : decode cJ2_compress_5af95 40 = .ok (.bastore, 1) := dkAt dk_J2_compress_5af95 22 rfl
theorem dj_J2_compress_5af95_41 : decode cJ2_compress_5af95 41 = .ok (.iinc 1 1, 3) := dkAt dk_J2_compress_5af95 23 rfl
theorem dj_J2_compress_5af95_44 : decode cJ2_compress_5af95 44 = .ok (.iinc 3 1, 3) := dkAt dk_J2_compress_5af95 24 rfl
theorem dj_J2_compress_5af95_47 : decode cJ2_compress_5af95 47 = .ok (.iinc 5 1, 3) := dkAt dk_J2_compress_5af95 25 rfl
theorem dj_J2_compress_5af95_50 : decode cJ2_compress_5af95 50 = .ok (.goto (-40), 3) := dkAt dk_J2_compress_5af95 26 rfl
theorem dj_J2_compress_5af95_53 : decode cJ2_compress_5af95 53 = .ok (.iload 4, 2) := dkAt dk_J2_compress_5af95 27 rfl
theorem dj_J2_compress_5af95_55 : decode cJ2_compress_5af95 55 = .ok (.ireturn, 1) := dkAt dk_J2_compress_5af95 28 rfl
theorem mw_J2_putCharSB_b72d1 : MW yJ2_putCharSB_b72d1 cJ2_putCharSB_b72d1 3 none 3 := ⟨gd 52 (by decide +kernel) rfl, gd 712 (by decide +kernel) rfl, ⟨by decide, by decide⟩, by decide +kernel⟩
theorem ms_J2_putCharSB_b72d1 : Gd (.static yJ2_putCharSB_b72d1) := gd 711 (by decide +kernel) rfl
theorem dj_J2_putCharSB_b72d1_0 : decode cJ2_putCharSB_b72d1 0 = .ok (.iload_n 1, 1) := dkAt dk_J2_putCharSB_b72d1 0 rfl
theorem dj_J2_putCharSB_b72d1_1 : decode cJ2_putCharSB_b72d1 1 = .ok (.aload_n 0, 1) := dkAt dk_J2_putCharSB_b72d1 1 rfl
theorem dj_J2_putCharSB_b72d1_2 : decode cJ2_putCharSB_b72d1 2 = .ok (.invokestatic 67, 3) := dkAt dk_J2_putCharSB_b72d1 2 rfl
theorem dj_J2_putCharSB_b72d1_5 : decode cJ2_putCharSB_b72d1 5 = .ok (.aload_n 0, 1) := dkAt dk_J2_putCharSB_b72d1 3 rfl
theorem dj_J2_putCharSB_b72d1_6 : decode cJ2_putCharSB_b72d1 6 = .ok (.iload_n 1, 1) := dkAt dk_J2_putCharSB_b72d1 4 rfl
theorem dj_J2_putCharSB_b72d1_7 : decode cJ2_putCharSB_b72d1 7 = .ok (.iload_n 2, 1) := dkAt dk_J2_putCharSB_b72d1 5 rfl
theorem dj_J2_putCharSB_b72d1_8 : decode cJ2_putCharSB_b72d1 8 = .ok (.invokestatic 111, 3) := dkAt dk_J2_putCharSB_b72d1 6 rfl
theorem dj_J2_putCharSB_b72d1_11 : decode cJ2_putCharSB_b72d1 11 = .ok (.return_, 1) := dkAt dk_J2_putCharSB_b72d1 7 rfl
theorem mw_J2_getChars_46870 : MW yJ2_getChars_46870 cJ2_getChars_46870 5 (some .int) 4 := ⟨gd 52 (by decide +kernel) rfl, gd 679 (by decide +kernel) rfl, ⟨by decide, by decide⟩, by decide +kernel⟩
theorem ms_J2_getChars_46870 : Gd (.static yJ2_getChars_46870) := gd 678 (by decide +kernel) rfl
theorem dj_J2_getChars_46870_0 : decode cJ2_getChars_46870 0 = .ok (.iload_n 1, 1) := dkAt dk_J2_getChars_46870 0 rfl
theorem dj_J2_getChars_46870_1 : decode cJ2_getChars_46870 1 = .ok (.iload_n 2, 1) := dkAt dk_J2_getChars_46870 1 rfl
theorem dj_J2_getChars_46870_2 : decode cJ2_getChars_46870 2 = .ok (.aload_n 3, 1) := dkAt dk_J2_getChars_46870 2 rfl
theorem dj_J2_getChars_46870_3 : decode cJ2_getChars_46870 3 = .ok (.invokestatic 96, 3) := dkAt dk_J2_getChars_46870 3 rfl
theorem dj_J2_getChars_46870_6 : decode cJ2_getChars_46870 6 = .ok (.iload_n 0, 1) := dkAt dk_J2_getChars_46870 4 rfl
theorem dj_J2_getChars_46870_7 : decode cJ2_getChars_46870 7 = .ok (.iload_n 2, 1) := dkAt dk_J2_getChars_46870 5 rfl
theorem dj_J2_getChars_46870_8 : decode cJ2_getChars_46870 8 = .ok (.aload_n 3, 1) := dkAt dk_J2_getChars_46870 6 rfl
theorem dj_J2_getChars_46870_9 : decode cJ2_getChars_46870 9 = .ok (.invokestatic 393, 3) := dkAt dk_J2_getChars_46870 7 rfl
theorem dj_J2_getChars_46870_12 : decode cJ2_getChars_46870 12 = .ok (.istore 4, 2) := dkAt dk_J2_getChars_46870 8 rfl
theorem dj_J2_getChars_46870_14 : decode cJ2_getChars_46870 14 = .ok (.getstatic 44, 3) := dkAt dk_J2_getChars_46870 9 rfl
theorem dj_J2_getChars_46870_17 : decode cJ2_getChars_46870 17 = .ok (.ifCond .ne 17, 3) := dkAt dk_J2_getChars_46870 10 rfl
theorem dj_J2_getChars_46870_20 : decode cJ2_getChars_46870 20 = .ok (.iload_n 1, 1) := dkAt dk_J2_getChars_46870 11 rfl
theorem dj_J2_getChars_46870_21 : decode cJ2_getChars_46870 21 = .ok (.iload 4, 2) := dkAt dk_J2_getChars_46870 12 rfl
theorem dj_J2_getChars_46870_23 : decode cJ2_getChars_46870 23 = .ok (.if_icmp .eq 11, 3) := dkAt dk_J2_getChars_46870 13 rfl
theorem dj_J2_getChars_46870_26 : decode cJ2_getChars_46870 26 = .ok (.new 52, 3) := dkAt dk_J2_getChars_46870 14 rfl
theorem dj_J2_getChars_46870_29 : decode cJ2_getChars_46870 29 = .ok (.dup, 1) := dkAt dk_J2_getChars_46870 15 rfl
theorem dj_J2_getChars_46870_30 : decode cJ2_getChars_46870 30 = .ok (.invokespecial 66, 3) := dkAt dk_J2_getChars_46870 16 rfl
theorem dj_J2_getChars_46870_33 : decode cJ2_getChars_46870 33 = .ok (.athrow, 1) := dkAt dk_J2_getChars_46870 17 rfl
theorem dj_J2_getChars_46870_34 : decode cJ2_getChars_46870 34 = .ok (.iload 4, 2) := dkAt dk_J2_getChars_46870 18 rfl
theorem dj_J2_getChars_46870_36 : decode cJ2_getChars_46870 36 = .ok (.ireturn, 1) := dkAt dk_J2_getChars_46870 19 rfl
theorem mw_J2_putCharsAt_cd4e5 : MW yJ2_putCharsAt_cd4e5 cJ2_putCharsAt_cd4e5 7 (some .int) 6 := ⟨gd 52 (by decide +kernel) rfl, gd 580 (by decide +kernel) rfl, ⟨by decide, by decide⟩, by decide +kernel⟩
theorem ms_J2_putCharsAt_cd4e5 : Gd (.static yJ2_putCharsAt_cd4e5) := gd 579 (by decide +kernel) rfl
theorem dj_J2_putCharsAt_cd4e5_0 : decode cJ2_putCharsAt_cd4e5 0 = .ok (.iload_n 1, 1) := dkAt dk_J2_putCharsAt_cd4e5 0 rfl
theorem dj_J2_putCharsAt_cd4e5_1 : decode cJ2_putCharsAt_cd4e5 1 = .ok (.iconst 4, 1) := dkAt dk_J2_putCharsAt_cd4e5 1 rfl
theorem dj_J2_putCharsAt_cd4e5_2 : decode cJ2_putCharsAt_cd4e5 2 = .ok (.iadd, 1) := dkAt dk_J2_putCharsAt_cd4e5 2 rfl
theorem dj_J2_putCharsAt_cd4e5_3 : decode cJ2_putCharsAt_cd4e5 3 = .ok (.istore 6, 2) := dkAt dk_J2_putCharsAt_cd4e5 3 rfl
theorem dj_J2_putCharsAt_cd4e5_5 : decode cJ2_putCharsAt_cd4e5 5 = .ok (.iload_n 1, 1) := dkAt dk_J2_putCharsAt_cd4e5 4 rfl
theorem dj_J2_putCharsAt_cd4e5_6 : decode cJ2_putCharsAt_cd4e5 6 = .ok (.iload 6, 2) := dkAt dk_J2_putCharsAt_cd4e5 5 rfl
theorem dj_J2_putCharsAt_cd4e5_8 : decode cJ2_putCharsAt_cd4e5 8 = .ok (.aload_n 0, 1) := dkAt dk_J2_putCharsAt_cd4e5 6 rfl
theorem dj_J2_putCharsAt_cd4e5_9 : decode cJ2_putCharsAt_cd4e5 9 = .ok (.invokestatic 96, 3) := dkAt dk_J2_putCharsAt_cd4e5 7 rfl
theorem dj_J2_putCharsAt_cd4e5_12 : decode cJ2_putCharsAt_cd4e5 12 = .ok (.aload_n 0, 1) := dkAt dk_J2_putCharsAt_cd4e5 8 rfl
theorem dj_J2_putCharsAt_cd4e5_13 : decode cJ2_putCharsAt_cd4e5 13 = .ok (.iload_n 1, 1) := dkAt dk_J2_putCharsAt_cd4e5 9 rfl
theorem dj_J2_putCharsAt_cd4e5_14 : decode cJ2_putCharsAt_cd4e5 14 = .ok (.iinc 1 1, 3) := dkAt dk_J2_putCharsAt_cd4e5 10 rfl
theorem dj_J2_putCharsAt_cd4e5_17 : decode cJ2_putCharsAt_cd4e5 17 = .ok (.iload_n 2, 1) := dkAt dk_J2_putCharsAt_cd4e5 11 rfl
theorem dj_J2_putCharsAt_cd4e5_18 : decode cJ2_putCharsAt_cd4e5 18 = .ok (.invokestatic 111, 3) := dkAt dk_J2_putCharsAt_cd4e5 12 rfl
theorem dj_J2_putCharsAt_cd4e5_21 : decode cJ2_putCharsAt_cd4e5 21 = .ok (.aload_n 0, 1) := dkAt dk_J2_putCharsAt_cd4e5 13 rfl
theorem dj_J2_putCharsAt_cd4e5_22 : decode cJ2_putCharsAt_cd4e5 22 = .ok (.iload_n 1, 1) := dkAt dk_J2_putCharsAt_cd4e5 14 rfl
theorem dj_J2_putCharsAt_cd4e5_23 : decode cJ2_putCharsAt_cd4e5 23 = .ok (.iinc 1 1, 3) := dkAt dk_J2_putCharsAt_cd4e5 15 rfl
theorem dj_J2_putCharsAt_cd4e5_26 : decode cJ2_putCharsAt_cd4e5 26 = .ok (.iload_n 3, 1) := dkAt dk_J2_putCharsAt_cd4e5 16 rfl
theorem dj_J2_putCharsAt_cd4e5_27 : decode cJ2_putCharsAt_cd4e5 27 = .ok (.invokestatic 111, 3) := dkAt dk_J2_putCharsAt_cd4e5 17 rfl
theorem dj_J2_putCharsAt_cd4e5_30 : decode cJ2_putCharsAt_cd4e5 30 = .ok (.aload_n 0, 1) := dkAt dk_J2_putCharsAt_cd4e5 18 rfl
theorem dj_J2_putCharsAt_cd4e5_31 : decode cJ2_putCharsAt_cd4e5 31 = .ok (.iload_n 1, 1) := dkAt dk_J2_putCharsAt_cd4e5 19 rfl
theorem dj_J2_putCharsAt_cd4e5_32 : decode cJ2_putCharsAt_cd4e5 32 = .ok (.iinc 1 1, 3) := dkAt dk_J2_putCharsAt_cd4e5 20 rfl
theorem dj_J2_putCharsAt_cd4e5_35 : decode cJ2_putCharsAt_cd4e5 35 = .ok (.iload 4, 2) := dkAt dk_J2_putCharsAt_cd4e5 21 rfl
theorem dj_J2_putCharsAt_cd4e5_37 : decode cJ2_putCharsAt_cd4e5 37 = .ok (.invokestatic 111, 3) := dkAt dk_J2_putCharsAt_cd4e5 22 rfl
theorem dj_J2_putCharsAt_cd4e5_40 : decode cJ2_putCharsAt_cd4e5 40 = .ok (.aload_n 0, 1) := dkAt dk_J2_putCharsAt_cd4e5 23 rfl
theorem dj_J2_putCharsAt_cd4e5_41 : decode cJ2_putCharsAt_cd4e5 41 = .ok (.iload_n 1, 1) := dkAt dk_J2_putCharsAt_cd4e5 24 rfl
theorem dj_J2_putCharsAt_cd4e5_42 : decode cJ2_putCharsAt_cd4e5 42 = .ok (.iinc 1 1, 3) := dkAt dk_J2_putCharsAt_cd4e5 25 rfl
theorem dj_J2_putCharsAt_cd4e5_45 : decode cJ2_putCharsAt_cd4e5 45 = .ok (.iload 5, 2) := dkAt dk_J2_putCharsAt_cd4e5 26 rfl
theorem dj_J2_putCharsAt_cd4e5_47 : decode cJ2_putCharsAt_cd4e5 47 = .ok (.invokestatic 111, 3) := dkAt dk_J2_putCharsAt_cd4e5 27 rfl
theorem dj_J2_putCharsAt_cd4e5_50 : decode cJ2_putCharsAt_cd4e5 50 = .ok (.getstatic 44, 3) := dkAt dk_J2_putCharsAt_cd4e5 28 rfl
theorem dj_J2_putCharsAt_cd4e5_53 : decode cJ2_putCharsAt_cd4e5 53 = .ok (.ifCond .ne 17, 3) := dkAt dk_J2_putCharsAt_cd4e5 29 rfl
theorem dj_J2_putCharsAt_cd4e5_56 : decode cJ2_putCharsAt_cd4e5 56 = .ok (.iload_n 1, 1) := dkAt dk_J2_putCharsAt_cd4e5 30 rfl
theorem dj_J2_putCharsAt_cd4e5_57 : decode cJ2_putCharsAt_cd4e5 57 = .ok (.iload 6, 2) := dkAt dk_J2_putCharsAt_cd4e5 31 rfl
theorem dj_J2_putCharsAt_cd4e5_59 : decode cJ2_putCharsAt_cd4e5 59 = .ok (.if_icmp .eq 11, 3) := dkAt dk_J2_putCharsAt_cd4e5 32 rfl
theorem dj_J2_putCharsAt_cd4e5_62 : decode cJ2_putCharsAt_cd4e5 62 = .ok (.new 52, 3) := dkAt dk_J2_putCharsAt_cd4e5 33 rfl
theorem dj_J2_putCharsAt_cd4e5_65 : decode cJ2_putCharsAt_cd4e5 65 = .ok (.dup, 1) := dkAt dk_J2_putCharsAt_cd4e5 34 rfl
theorem dj_J2_putCharsAt_cd4e5_66 : decode cJ2_putCharsAt_cd4e5 66 = .ok (.invokespecial 66, 3) := dkAt dk_J2_putCharsAt_cd4e5 35 rfl
theorem dj_J2_putCharsAt_cd4e5_69 : decode cJ2_putCharsAt_cd4e5 69 = .ok (.athrow, 1) := dkAt dk_J2_putCharsAt_cd4e5 36 rfl
theorem dj_J2_putCharsAt_cd4e5_70 : decode cJ2_putCharsAt_cd4e5 70 = .ok (.iload 6, 2) := dkAt dk_J2_putCharsAt_cd4e5 37 rfl
theorem dj_J2_putCharsAt_cd4e5_72 : decode cJ2_putCharsAt_cd4e5 72 = .ok (.ireturn, 1) := dkAt dk_J2_putCharsAt_cd4e5 38 rfl
theorem mw_J2_charAt_3b067 : MW yJ2_charAt_3b067 cJ2_charAt_3b067 2 (some .char) 2 := ⟨gd 52 (by decide +kernel) rfl, gd 831 (by decide +kernel) rfl, ⟨by decide, by decide⟩, by decide +kernel⟩
theorem ms_J2_charAt_3b067 : Gd (.static yJ2_charAt_3b067) := gd 830 (by decide +kernel) rfl
theorem dj_J2_charAt_3b067_0 : decode cJ2_charAt_3b067 0 = .ok (.iload_n 1, 1) := dkAt dk_J2_charAt_3b067 0 rfl
theorem dj_J2_charAt_3b067_1 : decode cJ2_charAt_3b067 1 = .ok (.aload_n 0, 1) := dkAt dk_J2_charAt_3b067 1 rfl
theorem dj_J2_charAt_3b067_2 : decode cJ2_charAt_3b067 2 = .ok (.invokestatic 67, 3) := dkAt dk_J2_charAt_3b067 2 rfl
theorem dj_J2_charAt_3b067_5 : decode cJ2_charAt_3b067 5 = .ok (.aload_n 0, 1) := dkAt dk_J2_charAt_3b067 3 rfl
theorem dj_J2_charAt_3b067_6 : decode cJ2_charAt_3b067 6 = .ok (.iload_n 1, 1) := dkAt dk_J2_charAt_3b067 4 rfl
theorem dj_J2_charAt_3b067_7 : decode cJ2_charAt_3b067 7 = .ok (.invokestatic 71, 3) := dkAt dk_J2_charAt_3b067 5 rfl
theorem dj_J2_charAt_3b067_10 : decode cJ2_charAt_3b067 10 = .ok (.ireturn, 1) := dkAt dk_J2_charAt_3b067 6 rfl
theorem mw_J2_inflate_0e8fd : MW yJ2_inflate_0e8fd cJ2_inflate_0e8fd 6 none 5 := ⟨gd 52 (by decide +kernel) rfl, gd 621 (by decide +kernel) rfl, ⟨by decide, by decide⟩, by decide +kernel⟩
theorem ms_J2_inflate_0e8fd : Gd (.static yJ2_inflate_0e8fd) := gd 620 (by decide +kernel) rfl
theorem dj_J2_inflate_0e8fd_0 : decode cJ2_inflate_0e8fd 0 = .ok (.iload_n 3, 1) := dkAt dk_J2_inflate_0e8fd 0 rfl
theorem dj_J2_inflate_0e8fd_1 : decode cJ2_inflate_0e8fd 1 = .ok (.iload 4, 2) := dkAt dk_J2_inflate_0e8fd 1 rfl
theorem dj_J2_inflate_0e8fd_3 : decode cJ2_inflate_0e8fd 3 = .ok (.aload_n 2, 1) := dkAt dk_J2_inflate_0e8fd 2 rfl
theorem dj_J2_inflate_0e8fd_4 : decode cJ2_inflate_0e8fd 4 = .ok (.invokestatic 173, 3) := dkAt dk_J2_inflate_0e8fd 3 rfl
theorem dj_J2_inflate_0e8fd_7 : decode cJ2_inflate_0e8fd 7 = .ok (.iconst 0, 1) := dkAt dk_J2_inflate_0e8fd 4 rfl
theorem dj_J2_inflate_0e8fd_8 : decode cJ2_inflate_0e8fd 8 = .ok (.istore 5, 2) := dkAt dk_J2_inflate_0e8fd 5 rfl
theorem dj_J2_inflate_0e8fd_10 : decode cJ2_inflate_0e8fd 10 = .ok (.iload 5, 2) := dkAt dk_J2_inflate_0e8fd 6 rfl
theorem dj_J2_inflate_0e8fd_12 : decode cJ2_inflate_0e8fd 12 = .ok (.iload 4, 2) := dkAt dk_J2_inflate_0e8fd 7 rfl
theorem dj_J2_inflate_0e8fd_14 : decode cJ2_inflate_0e8fd 14 = .ok (.if_icmp .ge 27, 3) := dkAt dk_J2_inflate_0e8fd 8 rfl
theorem dj_J2_inflate_0e8fd_17 : decode cJ2_inflate_0e8fd 17 = .ok (.aload_n 2, 1) := dkAt dk_J2_inflate_0e8fd 9 rfl
theorem dj_J2_inflate_0e8fd_18 : decode cJ2_inflate_0e8fd 18 = .ok (.iload_n 3, 1) := dkAt dk_J2_inflate_0e8fd 10 rfl
theorem dj_J2_inflate_0e8fd_19 : decode cJ2_inflate_0e8fd 19 = .ok (.iinc 3 1, 3) := dkAt dk_J2_inflate_0e8fd 11 rfl
theorem dj_J2_inflate_0e8fd_22 : decode cJ2_inflate_0e8fd 22 = .ok (.aload_n 0, 1) := dkAt dk_J2_inflate_0e8fd 12 rfl
theorem dj_J2_inflate_0e8fd_23 : decode cJ2_inflate_0e8fd 23 = .ok (.iload_n 1, 1) := dkAt dk_J2_inflate_0e8fd 13 rfl
theorem dj_J2_inflate_0e8fd_24 : decode cJ2_inflate_0e8fd 24 = .ok (.iinc 1 1, 3) := dkAt dk_J2_inflate_0e8fd 14 rfl
theorem dj_J2_inflate_0e8fd_27 : decode cJ2_inflate_0e8fd 27 = .ok (.baload, 1) := dkAt dk_J2_inflate_0e8fd 15 rfl
theorem dj_J2_inflate_0e8fd_28 : decode cJ2_inflate_0e8fd 28 = .ok (.sipush 255, 3) := dkAt dk_J2_inflate_0e8fd 16 rfl
theorem dj_J2_inflate_0e8fd_31 : decode cJ2_inflate_0e8fd 31 = .ok (.iand, 1) := dkAt dk_J2_inflate_0e8fd 17 rfl
theorem dj_J2_inflate_0e8fd_32 : decode cJ2_inflate_0e8fd 32 = .ok (.invokestatic 111, 3) := dkAt dk_J2_inflate_0e8fd 18 rfl
theorem dj_J2_inflate_0e8fd_35 : decode cJ2_inflate_0e8fd 35 = .ok (.iinc 5 1, 3) := dkAt dk_J2_inflate_0e8fd 19 rfl
theorem dj_J2_inflate_0e8fd_38 : decode cJ2_inflate_0e8fd 38 = .ok (.goto (-28), 3) := dkAt dk_J2_inflate_0e8fd 20 rfl
theorem dj_J2_inflate_0e8fd_41 : decode cJ2_inflate_0e8fd 41 = .ok (.return_, 1) := dkAt dk_J2_inflate_0e8fd 21 rfl
theorem mw_J2_getChars_ba4f3 : MW yJ2_getChars_ba4f3 cJ2_getChars_ba4f3 7 (some .int) 3 := ⟨gd 52 (by decide +kernel) rfl, gd 682 (by decide +kernel) rfl, ⟨by decide, by decide⟩, by decide +kernel⟩
theorem ms_J2_getChars_ba4f3 : Gd (.static yJ2_getChars_ba4f3) := gd 681 (by decide +kernel) rfl
theorem dj_J2_getChars_ba4f3_0 : decode cJ2_getChars_ba4f3 0 = .ok (.iload_n 1, 1) := dkAt dk_J2_getChars_ba4f3 0 rfl
theorem dj_J2_getChars_ba4f3_1 : decode cJ2_getChars_ba4f3 1 = .ok (.istore 5, 2) := dkAt dk_J2_getChars_ba4f3 1 rfl
theorem dj_J2_getChars_ba4f3_3 : decode cJ2_getChars_ba4f3 3 = .ok (.iload_n 0, 1) := dkAt dk_J2_getChars_ba4f3 2 rfl
theorem dj_J2_getChars_ba4f3_4 : decode cJ2_getChars_ba4f3 4 = .ok (.ifCond .ge 7, 3) := dkAt dk_J2_getChars_ba4f3 3 rfl
theorem dj_J2_getChars_ba4f3_7 : decode cJ2_getChars_ba4f3 7 = .ok (.iconst 1, 1) := dkAt dk_J2_getChars_ba4f3 4 rfl
theorem dj_J2_getChars_ba4f3_8 : decode cJ2_getChars_ba4f3 8 = .ok (.goto 4, 3) := dkAt dk_J2_getChars_ba4f3 5 rfl
theorem dj_J2_getChars_ba4f3_11 : decode cJ2_getChars_ba4f3 11 = .ok (.iconst 0, 1) := dkAt dk_J2_getChars_ba4f3 6 rfl
theorem dj_J2_getChars_ba4f3_12 : decode cJ2_getChars_ba4f3 12 = .ok (.istore 6, 2) := dkAt dk_J2_getChars_ba4f3 7 rfl
theorem dj_J2_getChars_ba4f3_14 : decode cJ2_getChars_ba4f3 14 = .ok (.iload 6, 2) := dkAt dk_J2_getChars_ba4f3 8 rfl
theorem dj_J2_getChars_ba4f3_16 : decode cJ2_getChars_ba4f3 16 = .ok (.ifCond .ne 6, 3) := dkAt dk_J2_getChars_ba4f3 9 rfl
theorem dj_J2_getChars_ba4f3_19 : decode cJ2_getChars_ba4f3 19 = .ok (.iload_n 0, 1) := dkAt dk_J2_getChars_ba4f3 10 rfl
theorem dj_J2_getChars_ba4f3_20 : decode cJ2_getChars_ba4f3 20 = .ok (.ineg, 1) := dkAt dk_J2_getChars_ba4f3 11 rfl
theorem dj_J2_getChars_ba4f3_21 : decode cJ2_getChars_ba4f3 21 = .ok (.istore_n 0, 1) := dkAt dk_J2_getChars_ba4f3 12 rfl
theorem dj_J2_getChars_ba4f3_22 : decode cJ2_getChars_ba4f3 22 = .ok (.iload_n 0, 1) := dkAt dk_J2_getChars_ba4f3 13 rfl
theorem dj_J2_getChars_ba4f3_23 : decode cJ2_getChars_ba4f3 23 = .ok (.bipush (-100), 2) := dkAt dk_J2_getChars_ba4f3 14 rfl
theorem dj_J2_getChars_ba4f3_25 : decode cJ2_getChars_ba4f3 25 = .ok (.if_icmp .gt 51, 3) := dkAt dk_J2_getChars_ba4f3 15 rfl
theorem dj_J2_getChars_ba4f3_28 : decode cJ2_getChars_ba4f3 28 = .ok (.iload_n 0, 1) := dkAt dk_J2_getChars_ba4f3 16 rfl
theorem dj_J2_getChars_ba4f3_29 : decode cJ2_getChars_ba4f3 29 = .ok (.bipush 100, 2) := dkAt dk_J2_getChars_ba4f3 17 rfl
theorem dj_J2_getChars_ba4f3_31 : decode cJ2_getChars_ba4f3 31 = .ok (.idiv, 1) := dkAt dk_J2_getChars_ba4f3 18 rfl
theorem dj_J2_getChars_ba4f3_32 : decode cJ2_getChars_ba4f3 32 = .ok (.istore_n 3, 1) := dkAt dk_J2_getChars_ba4f3 19 rfl
theorem dj_J2_getChars_ba4f3_33 : decode cJ2_getChars_ba4f3 33 = .ok (.iload_n 3, 1) := dkAt dk_J2_getChars_ba4f3 20 rfl
theorem dj_J2_getChars_ba4f3_34 : decode cJ2_getChars_ba4f3 34 = .ok (.bipush 100, 2) := dkAt dk_J2_getChars_ba4f3 21 rfl
theorem dj_J2_getChars_ba4f3_36 : decode cJ2_getChars_ba4f3 36 = .ok (.imul, 1) := dkAt dk_J2_getChars_ba4f3 22 rfl
theorem dj_J2_getChars_ba4f3_37 : decode cJ2_getChars_ba4f3 37 = .ok (.iload_n 0, 1) := dkAt dk_J2_getChars_ba4f3 23 rfl
theorem dj_J2_getChars_ba4f3_38 : decode cJ2_getChars_ba4f3 38 = .ok (.isub, 1) := dkAt dk_J2_getChars_ba4f3 24 rfl
theorem dj_J2_getChars_ba4f3_39 : decode cJ2_getChars_ba4f3 39 = .ok (.istore 4, 2) := dkAt dk_J2_getChars_ba4f3 25 rfl
theorem dj_J2_getChars_ba4f3_41 : decode cJ2_getChars_ba4f3 41 = .ok (.iload_n 3, 1) := dkAt dk_J2_getChars_ba4f3 26 rfl
theorem dj_J2_getChars_ba4f3_42 : decode cJ2_getChars_ba4f3 42 = .ok (.istore_n 0, 1) := dkAt dk_J2_getChars_ba4f3 27 rfl
theorem dj_J2_getChars_ba4f3_43 : decode cJ2_getChars_ba4f3 43 = .ok (.aload_n 2, 1) := dkAt dk_J2_getChars_ba4f3 28 rfl
theorem dj_J2_getChars_ba4f3_44 : decode cJ2_getChars_ba4f3 44 = .ok (.iinc 5 (-1), 3) := dkAt dk_J2_getChars_ba4f3 29 rfl
theorem dj_J2_getChars_ba4f3_47 : decode cJ2_getChars_ba4f3 47 = .ok (.iload 5, 2) := dkAt dk_J2_getChars_ba4f3 30 rfl
theorem dj_J2_getChars_ba4f3_49 : decode cJ2_getChars_ba4f3 49 = .ok (.getstatic 403, 3) := dkAt dk_J2_getChars_ba4f3 31 rfl
theorem dj_J2_getChars_ba4f3_52 : decode cJ2_getChars_ba4f3 52 = .ok (.iload 4, 2) := dkAt dk_J2_getChars_ba4f3 32 rfl
theorem dj_J2_getChars_ba4f3_54 : decode cJ2_getChars_ba4f3 54 = .ok (.baload, 1) := dkAt dk_J2_getChars_ba4f3 33 rfl
theorem dj_J2_getChars_ba4f3_55 : decode cJ2_getChars_ba4f3 55 = .ok (.invokestatic 111, 3) := dkAt dk_J2_getChars_ba4f3 34 rfl
theorem dj_J2_getChars_ba4f3_58 : decode cJ2_getChars_ba4f3 58 = .ok (.aload_n 2, 1) := dkAt dk_J2_getChars_ba4f3 35 rfl
theorem dj_J2_getChars_ba4f3_59 : decode cJ2_getChars_ba4f3 59 = .ok (.iinc 5 (-1), 3) := dkAt dk_J2_getChars_ba4f3 36 rfl
theorem dj_J2_getChars_ba4f3_62 : decode cJ2_getChars_ba4f3 62 = .ok (.iload 5, 2) := dkAt dk_J2_getChars_ba4f3 37 rfl
theorem dj_J2_getChars_ba4f3_64 : decode cJ2_getChars_ba4f3 64 = .ok (.getstatic 407, 3) := dkAt dk_J2_getChars_ba4f3 38 rfl
theorem dj_J2_getChars_ba4f3_67 : decode cJ2_getChars_ba4f3 67 = .ok (.iload 4, 2) := dkAt dk_J2_getChars_ba4f3 39 rfl
theorem dj_J2_getChars_ba4f3_69 : decode cJ2_getChars_ba4f3 69 = .ok (.baload, 1) := dkAt dk_J2_getChars_ba4f3 40 rfl
theorem dj_J2_getChars_ba4f3_70 : decode cJ2_getChars_ba4f3 70 = .ok (.invokestatic 111, 3) := dkAt dk_J2_getChars_ba4f3 41 rfl
theorem dj_J2_getChars_ba4f3_73 : decode cJ2_getChars_ba4f3 73 = .ok (.goto (-51), 3) := dkAt dk_J2_getChars_ba4f3 42 rfl
theorem dj_J2_getChars_ba4f3_76 : decode cJ2_getChars_ba4f3 76 = .ok (.aload_n 2, 1) := dkAt dk_J2_getChars_ba4f3 43 rfl
theorem dj_J2_getChars_ba4f3_77 : decode cJ2_getChars_ba4f3 77 = .ok (.iinc 5 (-1), 3) := dkAt dk_J2_getChars_ba4f3 44 rfl
theorem dj_J2_getChars_ba4f3_80 : decode cJ2_getChars_ba4f3 80 = .ok (.iload 5, 2) := dkAt dk_J2_getChars_ba4f3 45 rfl
theorem dj_J2_getChars_ba4f3_82 : decode cJ2_getChars_ba4f3 82 = .ok (.getstatic 403, 3) := dkAt dk_J2_getChars_ba4f3 46 rfl
theorem dj_J2_getChars_ba4f3_85 : decode cJ2_getChars_ba4f3 85 = .ok (.iload_n 0, 1) := dkAt dk_J2_getChars_ba4f3 47 rfl
theorem dj_J2_getChars_ba4f3_86 : decode cJ2_getChars_ba4f3 86 = .ok (.ineg, 1) := dkAt dk_J2_getChars_ba4f3 48 rfl
theorem dj_J2_getChars_ba4f3_87 : decode cJ2_getChars_ba4f3 87 = .ok (.baload, 1) := dkAt dk_J2_getChars_ba4f3 49 rfl
theorem dj_J2_getChars_ba4f3_88 : decode cJ2_getChars_ba4f3 88 = .ok (.invokestatic 111, 3) := dkAt dk_J2_getChars_ba4f3 50 rfl
theorem dj_J2_getChars_ba4f3_91 : decode cJ2_getChars_ba4f3 91 = .ok (.iload_n 0, 1) := dkAt dk_J2_getChars_ba4f3 51 rfl
theorem dj_J2_getChars_ba4f3_92 : decode cJ2_getChars_ba4f3 92 = .ok (.bipush (-9), 2) := dkAt dk_J2_getChars_ba4f3 52 rfl
theorem dj_J2_getChars_ba4f3_94 : decode cJ2_getChars_ba4f3 94 = .ok (.if_icmp .ge 18, 3) := dkAt dk_J2_getChars_ba4f3 53 rfl
theorem dj_J2_getChars_ba4f3_97 : decode cJ2_getChars_ba4f3 97 = .ok (.aload_n 2, 1) := dkAt dk_J2_getChars_ba4f3 54 rfl
theorem dj_J2_getChars_ba4f3_98 : decode cJ2_getChars_ba4f3 98 = .ok (.iinc 5 (-1), 3) := dkAt dk_J2_getChars_ba4f3 55 rfl
theorem dj_J2_getChars_ba4f3_101 : decode cJ2_getChars_ba4f3 101 = .ok (.iload 5, 2) := dkAt dk_J2_getChars_ba4f3 56 rfl
theorem dj_J2_getChars_ba4f3_103 : decode cJ2_getChars_ba4f3 103 = .ok (.getstatic 407, 3) := dkAt dk_J2_getChars_ba4f3 57 rfl
theorem dj_J2_getChars_ba4f3_106 : decode cJ2_getChars_ba4f3 106 = .ok (.iload_n 0, 1) := dkAt dk_J2_getChars_ba4f3 58 rfl
theorem dj_J2_getChars_ba4f3_107 : decode cJ2_getChars_ba4f3 107 = .ok (.ineg, 1) := dkAt dk_J2_getChars_ba4f3 59 rfl
theorem dj_J2_getChars_ba4f3_108 : decode cJ2_getChars_ba4f3 108 = .ok (.baload, 1) := dkAt dk_J2_getChars_ba4f3 60 rfl
theorem dj_J2_getChars_ba4f3_109 : decode cJ2_getChars_ba4f3 109 = .ok (.invokestatic 111, 3) := dkAt dk_J2_getChars_ba4f3 61 rfl
theorem dj_J2_getChars_ba4f3_112 : decode cJ2_getChars_ba4f3 112 = .ok (.iload 6, 2) := dkAt dk_J2_getChars_ba4f3 62 rfl
theorem dj_J2_getChars_ba4f3_114 : decode cJ2_getChars_ba4f3 114 = .ok (.ifCond .eq 14, 3) := dkAt dk_J2_getChars_ba4f3 63 rfl
theorem dj_J2_getChars_ba4f3_117 : decode cJ2_getChars_ba4f3 117 = .ok (.aload_n 2, 1) := dkAt dk_J2_getChars_ba4f3 64 rfl
theorem dj_J2_getChars_ba4f3_118 : decode cJ2_getChars_ba4f3 118 = .ok (.iinc 5 (-1), 3) := dkAt dk_J2_getChars_ba4f3 65 rfl
theorem dj_J2_getChars_ba4f3_121 : decode cJ2_getChars_ba4f3 121 = .ok (.iload 5, 2) := dkAt dk_J2_getChars_ba4f3 66 rfl
theorem dj_J2_getChars_ba4f3_123 : decode cJ2_getChars_ba4f3 123 = .ok (.bipush 45, 2) := dkAt dk_J2_getChars_ba4f3 67 rfl
theorem dj_J2_getChars_ba4f3_125 : decode cJ2_getChars_ba4f3 125 = .ok (.invokestatic 111, 3) := dkAt dk_J2_getChars_ba4f3 68 rfl
theorem dj_J2_getChars_ba4f3_128 : decode cJ2_getChars_ba4f3 128 = .ok (.iload 5, 2) := dkAt dk_J2_getChars_ba4f3 69 rfl
theorem dj_J2_getChars_ba4f3_130 : decode cJ2_getChars_ba4f3 130 = .ok (.ireturn, 1) := dkAt dk_J2_getChars_ba4f3 70 rfl
theorem mw_J2_checkIndex_2214a : MW yJ2_checkIndex_2214a cJ2_checkIndex_2214a 2 none 2 := ⟨gd 52 (by decide +kernel) rfl, gd 715 (by decide +kernel) rfl, ⟨by decide, by decide⟩, by decide +kernel⟩
theorem ms_J2_checkIndex_2214a : Gd (.static yJ2_checkIndex_2214a) := gd 714 (by decide +kernel) rfl
theorem dj_J2_checkIndex_2214a_0 : decode cJ2_checkIndex_2214a 0 = .ok (.iload_n 0, 1) := dkAt dk_J2_checkIndex_2214a 0 rfl
theorem dj_J2_checkIndex_2214a_1 : decode cJ2_checkIndex_2214a 1 = .ok (.aload_n 1, 1) := dkAt dk_J2_checkIndex_2214a 1 rfl
theorem dj_J2_checkIndex_2214a_2 : decode cJ2_checkIndex_2214a 2 = .ok (.invokestatic 48, 3) := dkAt dk_J2_checkIndex_2214a 2 rfl
theorem dj_J2_checkIndex_2214a_5 : decode cJ2_checkIndex_2214a 5 = .ok (.invokestatic 414, 3) := dkAt dk_J2_checkIndex_2214a 3 rfl
theorem dj_J2_checkIndex_2214a_8 : decode cJ2_checkIndex_2214a 8 = .ok (.return_, 1) := dkAt dk_J2_checkIndex_2214a 4 rfl
theorem mw_J2_checkBoundsBeginEnd_d044e : MW yJ2_checkBoundsBeginEnd_d044e cJ2_checkBoundsBeginEnd_d044e 3 none 3 := ⟨gd 52 (by decide +kernel) rfl, gd 583 (by decide +kernel) rfl, ⟨by decide, by decide⟩, by decide +kernel⟩
theorem ms_J2_checkBoundsBeginEnd_d044e : Gd (.static yJ2_checkBoundsBeginEnd_d044e) := gd 582 (by decide +kernel) rfl
theorem dj_J2_checkBoundsBeginEnd_d044e_0 : decode cJ2_checkBoundsBeginEnd_d044e 0 = .ok (.iload_n 0, 1) := dkAt dk_J2_checkBoundsBeginEnd_d044e 0 rfl
theorem dj_J2_checkBoundsBeginEnd_d044e_1 : decode cJ2_checkBoundsBeginEnd_d044e 1 = .ok (.iload_n 1, 1) := dkAt dk_J2_checkBoundsBeginEnd_d044e 1 rfl
theorem dj_J2_checkBoundsBeginEnd_d044e_2 : decode cJ2_checkBoundsBeginEnd_d044e 2 = .ok (.aload_n 2, 1) := dkAt dk_J2_checkBoundsBeginEnd_d044e 2 rfl
theorem dj_J2_checkBoundsBeginEnd_d044e_3 : decode cJ2_checkBoundsBeginEnd_d044e 3 = .ok (.invokestatic 48, 3) := dkAt dk_J2_checkBoundsBeginEnd_d044e 3 rfl
theorem dj_J2_checkBoundsBeginEnd_d044e_6 : decode cJ2_checkBoundsBeginEnd_d044e 6 = .ok (.invokestatic 241, 3) := dkAt dk_J2_checkBoundsBeginEnd_d044e 4 rfl
theorem dj_J2_checkBoundsBeginEnd_d044e_9 : decode cJ2_checkBoundsBeginEnd_d044e 9 = .ok (.return_, 1) := dkAt dk_J2_checkBoundsBeginEnd_d044e 5 rfl
theorem mw_J2_checkBoundsOffCount_d044e : MW yJ2_checkBoundsOffCount_d044e cJ2_checkBoundsOffCount_d044e 3 none 3 := ⟨gd 52 (by decide +kernel) rfl, gd 624 (by decide +kernel) rfl, ⟨by decide, by decide⟩, by decide +kernel⟩
theorem ms_J2_checkBoundsOffCount_d044e : Gd (.static yJ2_checkBoundsOffCount_d044e) := gd 623 (by decide +kernel) rfl
theorem dj_J2_checkBoundsOffCount_d044e_0 : decode cJ2_checkBoundsOffCount_d044e 0 = .ok (.iload_n 0, 1) := dkAt dk_J2_checkBoundsOffCount_d044e 0 rfl
theorem dj_J2_checkBoundsOffCount_d044e_1 : decode cJ2_checkBoundsOffCount_d044e 1 = .ok (.iload_n 1, 1) := dkAt dk_J2_checkBoundsOffCount_d044e 1 rfl
theorem dj_J2_checkBoundsOffCount_d044e_2 : decode cJ2_checkBoundsOffCount_d044e 2 = .ok (.aload_n 2, 1) := dkAt dk_J2_checkBoundsOffCount_d044e 2 rfl
theorem dj_J2_checkBoundsOffCount_d044e_3 : decode cJ2_checkBoundsOffCount_d044e 3 = .ok (.invokestatic 48, 3) := dkAt dk_J2_checkBoundsOffCount_d044e 3 rfl
theorem dj_J2_checkBoundsOffCount_d044e_6 : decode cJ2_checkBoundsOffCount_d044e 6 = .ok (.invokestatic 419, 3) := dkAt dk_J2_checkBoundsOffCount_d044e 4 rfl
theorem dj_J2_checkBoundsOffCount_d044e_9 : decode cJ2_checkBoundsOffCount_d044e 9 = .ok (.pop, 1) := dkAt dk_J2_checkBoundsOffCount_d044e 5 rfl
theorem dj_J2_checkBoundsOffCount_d044e_10 : decode cJ2_checkBoundsOffCount_d044e 10 = .ok (.return_, 1) := dkAt dk_J2_checkBoundsOffCount_d044e 6 rfl
theorem dj_J7_fill_d0a16_0 : decode cJ7_fill_d0a16 0 = .ok (.iconst 0, 1) := dkAt dk_J7_fill_d0a16 0 rfl
theorem dj_J7_fill_d0a16_1 : decode cJ7_fill_d0a16 1 = .ok (.istore_n 3, 1) := dkAt dk_J7_fill_d0a16 1 rfl
theorem dj_J7_fill_d0a16_2 : decode cJ7_fill_d0a16 2 = .ok (.aload_n 0, 1) := dkAt dk_J7_fill_d0a16 2 rfl
theorem dj_J7_fill_d0a16_3 : decode cJ7_fill_d0a16 3 = .ok (.arraylength, 1) := dkAt dk_J7_fill_d0a16 3 rfl
theorem dj_J7_fill_d0a16_4 : decode cJ7_fill_d0a16 4 = .ok (.istore 4, 2) := dkAt dk_J7_fill_d0a16 4 rfl
theorem dj_J7_fill_d0a16_6 : decode cJ7_fill_d0a16 6 = .ok (.iload_n 3, 1) := dkAt dk_J7_fill_d0a16 5 rfl
theorem dj_J7_fill_d0a16_7 : decode cJ7_fill_d0a16 7 = .ok (.iload 4, 2) := dkAt dk_J7_fill_d0a16 6 rfl
theorem dj_J7_fill_d0a16_9 : decode cJ7_fill_d0a16 9 = .ok (.if_icmp .ge 13, 3) := dkAt dk_J7_fill_d0a16 7 rfl
theorem dj_J7_fill_d0a16_12 : decode cJ7_fill_d0a16 12 = .ok (.aload_n 0, 1) := dkAt dk_J7_fill_d0a16 8 rfl
theorem dj_J7_fill_d0a16_13 : decode cJ7_fill_d0a16 13 = .ok (.iload_n 3, 1) := dkAt dk_J7_fill_d0a16 9 rfl
theorem dj_J7_fill_d0a16_14 : decode cJ7_fill_d0a16 14 = .ok (.lload_n 1, 1) := dkAt dk_J7_fill_d0a16 10 rfl
theorem dj_J7_fill_d0a16_15 : decode cJ7_fill_d0a16 15 = .ok (.lastore, 1) := dkAt dk_J7_fill_d0a16 11 rfl
theorem dj_J7_fill_d0a16_16 : decode cJ7_fill_d0a16 16 = .ok (.iinc 3 1, 3) := dkAt dk_J7_fill_d0a16 12 rfl
theorem dj_J7_fill_d0a16_19 : decode cJ7_fill_d0a16 19 = .ok (.goto (-13), 3) := dkAt dk_J7_fill_d0a16 13 rfl
theorem dj_J7_fill_d0a16_22 : decode cJ7_fill_d0a16 22 = .ok (.return_, 1) := dkAt dk_J7_fill_d0a16 14 rfl
theorem dj_J7_fill_53178_0 : decode cJ7_fill_53178 0 = .ok (.iconst 0, 1) := dkAt dk_J7_fill_53178 0 rfl
theorem dj_J7_fill_53178_1 : decode cJ7_fill_53178 1 = .ok (.istore_n 2, 1) := dkAt dk_J7_fill_53178 1 rfl
theorem dj_J7_fill_53178_2 : decode cJ7_fill_53178 2 = .ok (.aload_n 0, 1) := dkAt dk_J7_fill_53178 2 rfl
theorem dj_J7_fill_53178_3 : decode cJ7_fill_53178 3 = .ok (.arraylength, 1) := dkAt dk_J7_fill_53178 3 rfl
theorem dj_J7_fill_53178_4 : decode cJ7_fill_53178 4 = .ok (.istore_n 3, 1) := dkAt dk_J7_fill_53178 4 rfl
theorem dj_J7_fill_53178_5 : decode cJ7_fill_53178 5 = .ok (.iload_n 2, 1) := dkAt dk_J7_fill_53178 5 rfl
theorem dj_J7_fill_53178_6 : decode cJ7_fill_53178 6 = .ok (.iload_n 3, 1) := dkAt dk_J7_fill_53178 6 rfl
theorem dj_J7_fill_53178_7 : decode cJ7_fill_53178 7 = .ok (.if_icmp .ge 13, 3) := dkAt dk_J7_fill_53178 7 rfl
theorem dj_J7_fill_53178_10 : decode cJ7_fill_53178 10 = .ok (.aload_n 0, 1) := dkAt dk_J7_fill_53178 8 rfl
theorem dj_J7_fill_53178_11 : decode cJ7_fill_53178 11 = .ok (.iload_n 2, 1) := dkAt dk_J7_fill_53178 9 rfl
theorem dj_J7_fill_53178_12 : decode cJ7_fill_53178 12 = .ok (.iload_n 1, 1) := dkAt dk_J7_fill_53178 10 rfl
theorem dj_J7_fill_53178_13 : decode cJ7_fill_53178 13 = .ok (.iastore, 1) := dkAt dk_J7_fill_53178 11 rfl
theorem dj_J7_fill_53178_14 : decode cJ7_fill_53178 14 = .ok (.iinc 2 1, 3) := dkAt dk_J7_fill_53178 12 rfl
theorem dj_J7_fill_53178_17 : decode cJ7_fill_53178 17 = .ok (.goto (-12), 3) := dkAt dk_J7_fill_53178 13 rfl
theorem dj_J7_fill_53178_20 : decode cJ7_fill_53178 20 = .ok (.return_, 1) := dkAt dk_J7_fill_53178 14 rfl
theorem mw_J7_copyOf_9075b : MW yJ7_copyOf_9075b cJ7_copyOf_9075b 3 (some (.array .byte)) 2 := ⟨gd 55 (by decide +kernel) rfl, gd 558 (by decide +kernel) rfl, ⟨by decide, by decide⟩, by decide +kernel⟩
theorem ms_J7_copyOf_9075b : Gd (.static yJ7_copyOf_9075b) := gd 557 (by decide +kernel) rfl
theorem dj_J7_copyOf_9075b_0 : decode cJ7_copyOf_9075b 0 = .ok (.iload_n 1, 1) := dkAt dk_J7_copyOf_9075b 0 rfl
theorem dj_J7_copyOf_9075b_1 : decode cJ7_copyOf_9075b 1 = .ok (.aload_n 0, 1) := dkAt dk_J7_copyOf_9075b 1 rfl
theorem dj_J7_copyOf_9075b_2 : decode cJ7_copyOf_9075b 2 = .ok (.arraylength, 1) := dkAt dk_J7_copyOf_9075b 2 rfl
theorem dj_J7_copyOf_9075b_3 : decode cJ7_copyOf_9075b 3 = .ok (.if_icmp .ne 11, 3) := dkAt dk_J7_copyOf_9075b 3 rfl
theorem dj_J7_copyOf_9075b_6 : decode cJ7_copyOf_9075b 6 = .ok (.aload_n 0, 1) := dkAt dk_J7_copyOf_9075b 4 rfl
theorem dj_J7_copyOf_9075b_7 : decode cJ7_copyOf_9075b 7 = .ok (.invokevirtual 310, 3) := dkAt dk_J7_copyOf_9075b 5 rfl
theorem dj_J7_copyOf_9075b_10 : decode cJ7_copyOf_9075b 10 = .ok (.checkcast 311, 3) := dkAt dk_J7_copyOf_9075b 6 rfl
theorem dj_J7_copyOf_9075b_13 : decode cJ7_copyOf_9075b 13 = .ok (.areturn, 1) := dkAt dk_J7_copyOf_9075b 7 rfl
theorem dj_J7_copyOf_9075b_14 : decode cJ7_copyOf_9075b 14 = .ok (.iload_n 1, 1) := dkAt dk_J7_copyOf_9075b 8 rfl
theorem dj_J7_copyOf_9075b_15 : decode cJ7_copyOf_9075b 15 = .ok (.newarray .byte, 2) := dkAt dk_J7_copyOf_9075b 9 rfl
theorem dj_J7_copyOf_9075b_17 : decode cJ7_copyOf_9075b 17 = .ok (.astore_n 2, 1) := dkAt dk_J7_copyOf_9075b 10 rfl
theorem dj_J7_copyOf_9075b_18 : decode cJ7_copyOf_9075b 18 = .ok (.aload_n 0, 1) := dkAt dk_J7_copyOf_9075b 11 rfl
theorem dj_J7_copyOf_9075b_19 : decode cJ7_copyOf_9075b 19 = .ok (.iconst 0, 1) := dkAt dk_J7_copyOf_9075b 12 rfl
theorem dj_J7_copyOf_9075b_20 : decode cJ7_copyOf_9075b 20 = .ok (.aload_n 2, 1) := dkAt dk_J7_copyOf_9075b 13 rfl
theorem dj_J7_copyOf_9075b_21 : decode cJ7_copyOf_9075b 21 = .ok (.iconst 0, 1) := dkAt dk_J7_copyOf_9075b 14 rfl
theorem dj_J7_copyOf_9075b_22 : decode cJ7_copyOf_9075b 22 = .ok (.aload_n 0, 1) := dkAt dk_J7_copyOf_9075b 15 rfl
theorem dj_J7_copyOf_9075b_23 : decode cJ7_copyOf_9075b 23 = .ok (.arraylength, 1) := dkAt dk_J7_copyOf_9075b 16 rfl
theorem dj_J7_copyOf_9075b_24 : decode cJ7_copyOf_9075b 24 = .ok (.iload_n 1, 1) := dkAt dk_J7_copyOf_9075b 17 rfl
theorem dj_J7_copyOf_9075b_25 : decode cJ7_copyOf_9075b 25 = .ok (.invokestatic 304, 3) := dkAt dk_J7_copyOf_9075b 18 rfl
theorem dj_J7_copyOf_9075b_28 : decode cJ7_copyOf_9075b 28 = .ok (.invokestatic 150, 3) := dkAt dk_J7_copyOf_9075b 19 rfl
theorem dj_J7_copyOf_9075b_31 : decode cJ7_copyOf_9075b 31 = .ok (.aload_n 2, 1) := dkAt dk_J7_copyOf_9075b 20 rfl
theorem dj_J7_copyOf_9075b_32 : decode cJ7_copyOf_9075b 32 = .ok (.areturn, 1) := dkAt dk_J7_copyOf_9075b 21 rfl
theorem mw_J7_checkLength_df160 : MW yJ7_checkLength_df160 cJ7_checkLength_df160 2 none 2 := ⟨gd 55 (by decide +kernel) rfl, gd 1641 (by decide +kernel) rfl, ⟨by decide, by decide⟩, by decide +kernel⟩
theorem ms_J7_checkLength_df160 : Gd (.static yJ7_checkLength_df160) := gd 1640 (by decide +kernel) rfl
theorem dj_J7_checkLength_df160_0 : decode cJ7_checkLength_df160 0 = .ok (.iload_n 1, 1) := dkAt dk_J7_checkLength_df160 0 rfl
theorem dj_J7_checkLength_df160_1 : decode cJ7_checkLength_df160 1 = .ok (.iload_n 0, 1) := dkAt dk_J7_checkLength_df160 1 rfl
theorem dj_J7_checkLength_df160_2 : decode cJ7_checkLength_df160 2 = .ok (.if_icmp .ge 35, 3) := dkAt dk_J7_checkLength_df160 2 rfl
theorem dj_J7_checkLength_df160_5 : decode cJ7_checkLength_df160 5 = .ok (.new 43, 3) := dkAt dk_J7_checkLength_df160 3 rfl
theorem dj_J7_checkLength_df160_8 : decode cJ7_checkLength_df160 8 = .ok (.dup, 1) := dkAt dk_J7_checkLength_df160 4 rfl
theorem dj_J7_checkLength_df160_9 : decode cJ7_checkLength_df160 9 = .ok (.new 45, 3) := dkAt dk_J7_checkLength_df160 5 rfl
theorem dj_J7_checkLength_df160_12 : decode cJ7_checkLength_df160 12 = .ok (.dup, 1) := dkAt dk_J7_checkLength_df160 6 rfl
theorem dj_J7_checkLength_df160_13 : decode cJ7_checkLength_df160 13 = .ok (.invokespecial 47, 3) := dkAt dk_J7_checkLength_df160 7 rfl
theorem dj_J7_checkLength_df160_16 : decode cJ7_checkLength_df160 16 = .ok (.iload_n 0, 1) := dkAt dk_J7_checkLength_df160 8 rfl
theorem dj_J7_checkLength_df160_17 : decode cJ7_checkLength_df160 17 = .ok (.invokevirtual 54, 3) := dkAt dk_J7_checkLength_df160 9 rfl
theorem dj_J7_checkLength_df160_20 : decode cJ7_checkLength_df160 20 = .ok (.ldc_w 337, 3) := dkAt dk_J7_checkLength_df160 10 rfl
theorem dj_J7_checkLength_df160_23 : decode cJ7_checkLength_df160 23 = .ok (.invokevirtual 50, 3) := dkAt dk_J7_checkLength_df160 11 rfl
theorem dj_J7_checkLength_df160_26 : decode cJ7_checkLength_df160 26 = .ok (.iload_n 1, 1) := dkAt dk_J7_checkLength_df160 12 rfl
theorem dj_J7_checkLength_df160_27 : decode cJ7_checkLength_df160 27 = .ok (.invokevirtual 54, 3) := dkAt dk_J7_checkLength_df160 13 rfl
theorem dj_J7_checkLength_df160_30 : decode cJ7_checkLength_df160 30 = .ok (.invokevirtual 61, 3) := dkAt dk_J7_checkLength_df160 14 rfl
theorem dj_J7_checkLength_df160_33 : decode cJ7_checkLength_df160 33 = .ok (.invokespecial 65, 3) := dkAt dk_J7_checkLength_df160 15 rfl
theorem dj_J7_checkLength_df160_36 : decode cJ7_checkLength_df160 36 = .ok (.athrow, 1) := dkAt dk_J7_checkLength_df160 16 rfl
theorem dj_J7_checkLength_df160_37 : decode cJ7_checkLength_df160 37 = .ok (.return_, 1) := dkAt dk_J7_checkLength_df160 17 rfl
theorem mw_J7_copyOfRange_39247 : MW yJ7_copyOfRange_39247 cJ7_copyOfRange_39247 3 (some (.array .byte)) 3 := ⟨gd 55 (by decide +kernel) rfl, gd 1635 (by decide +kernel) rfl, ⟨by decide, by decide⟩, by decide +kernel⟩
theorem ms_J7_copyOfRange_39247 : Gd (.static yJ7_copyOfRange_39247) := gd 1634 (by decide +kernel) rfl
theorem dj_J7_copyOfRange_39247_0 : decode cJ7_copyOfRange_39247 0 = .ok (.iload_n 1, 1) := dkAt dk_J7_copyOfRange_39247 0 rfl
theorem dj_J7_copyOfRange_39247_1 : decode cJ7_copyOfRange_39247 1 = .ok (.ifCond .ne 9, 3) := dkAt dk_J7_copyOfRange_39247 1 rfl
theorem dj_J7_copyOfRange_39247_4 : decode cJ7_copyOfRange_39247 4 = .ok (.iload_n 2, 1) := dkAt dk_J7_copyOfRange_39247 2 rfl
theorem dj_J7_copyOfRange_39247_5 : decode cJ7_copyOfRange_39247 5 = .ok (.aload_n 0, 1) := dkAt dk_J7_copyOfRange_39247 3 rfl
theorem dj_J7_copyOfRange_39247_6 : decode cJ7_copyOfRange_39247 6 = .ok (.arraylength, 1) := dkAt dk_J7_copyOfRange_39247 4 rfl
theorem dj_J7_copyOfRange_39247_7 : decode cJ7_copyOfRange_39247 7 = .ok (.if_icmp .eq 10, 3) := dkAt dk_J7_copyOfRange_39247 5 rfl
theorem dj_J7_copyOfRange_39247_10 : decode cJ7_copyOfRange_39247 10 = .ok (.aload_n 0, 1) := dkAt dk_J7_copyOfRange_39247 6 rfl
theorem dj_J7_copyOfRange_39247_11 : decode cJ7_copyOfRange_39247 11 = .ok (.iload_n 1, 1) := dkAt dk_J7_copyOfRange_39247 7 rfl
theorem dj_J7_copyOfRange_39247_12 : decode cJ7_copyOfRange_39247 12 = .ok (.iload_n 2, 1) := dkAt dk_J7_copyOfRange_39247 8 rfl
theorem dj_J7_copyOfRange_39247_13 : decode cJ7_copyOfRange_39247 13 = .ok (.invokestatic 339, 3) := dkAt dk_J7_copyOfRange_39247 9 rfl
theorem dj_J7_copyOfRange_39247_16 : decode cJ7_copyOfRange_39247 16 = .ok (.areturn, 1) := dkAt dk_J7_copyOfRange_39247 10 rfl
theorem dj_J7_copyOfRange_39247_17 : decode cJ7_copyOfRange_39247 17 = .ok (.aload_n 0, 1) := dkAt dk_J7_copyOfRange_39247 11 rfl
theorem dj_J7_copyOfRange_39247_18 : decode cJ7_copyOfRange_39247 18 = .ok (.invokevirtual 310, 3) := dkAt dk_J7_copyOfRange_39247 12 rfl
theorem dj_J7_copyOfRange_39247_21 : decode cJ7_copyOfRange_39247 21 = .ok (.checkcast 311, 3) := dkAt dk_J7_copyOfRange_39247 13 rfl
theorem dj_J7_copyOfRange_39247_24 : decode cJ7_copyOfRange_39247 24 = .ok (.areturn, 1) := dkAt dk_J7_copyOfRange_39247 14 rfl
theorem mw_J7_copyOfRangeByte_39247 : MW yJ7_copyOfRangeByte_39247 cJ7_copyOfRangeByte_39247 5 (some (.array .byte)) 3 := ⟨gd 55 (by decide +kernel) rfl, gd 1638 (by decide +kernel) rfl, ⟨by decide, by decide⟩, by decide +kernel⟩
theorem ms_J7_copyOfRangeByte_39247 : Gd (.static yJ7_copyOfRangeByte_39247) := gd 1637 (by decide +kernel) rfl
theorem dj_J7_copyOfRangeByte_39247_0 : decode cJ7_copyOfRangeByte_39247 0 = .ok (.iload_n 1, 1) := dkAt dk_J7_copyOfRangeByte_39247 0 rfl
theorem dj_J7_copyOfRangeByte_39247_1 : decode cJ7_copyOfRangeByte_39247 1 = .ok (.iload_n 2, 1) := dkAt dk_J7_copyOfRangeByte_39247 1 rfl
theorem dj_J7_copyOfRangeByte_39247_2 : decode cJ7_copyOfRangeByte_39247 2 = .ok (.invokestatic 343, 3) := dkAt dk_J7_copyOfRangeByte_39247 2 rfl
theorem dj_J7_copyOfRangeByte_39247_5 : decode cJ7_copyOfRangeByte_39247 5 = .ok (.iload_n 2, 1) := dkAt dk_J7_copyOfRangeByte_39247 3 rfl
theorem dj_J7_copyOfRangeByte_39247_6 : decode cJ7_copyOfRangeByte_39247 6 = .ok (.iload_n 1, 1) := dkAt dk_J7_copyOfRangeByte_39247 4 rfl
theorem dj_J7_copyOfRangeByte_39247_7 : decode cJ7_copyOfRangeByte_39247 7 = .ok (.isub, 1) := dkAt dk_J7_copyOfRangeByte_39247 5 rfl
theorem dj_J7_copyOfRangeByte_39247_8 : decode cJ7_copyOfRangeByte_39247 8 = .ok (.istore_n 3, 1) := dkAt dk_J7_copyOfRangeByte_39247 6 rfl
theorem dj_J7_copyOfRangeByte_39247_9 : decode cJ7_copyOfRangeByte_39247 9 = .ok (.iload_n 3, 1) := dkAt dk_J7_copyOfRangeByte_39247 7 rfl
theorem dj_J7_copyOfRangeByte_39247_10 : decode cJ7_copyOfRangeByte_39247 10 = .ok (.newarray .byte, 2) := dkAt dk_J7_copyOfRangeByte_39247 8 rfl
theorem dj_J7_copyOfRangeByte_39247_12 : decode cJ7_copyOfRangeByte_39247 12 = .ok (.astore 4, 2) := dkAt dk_J7_copyOfRangeByte_39247 9 rfl
theorem dj_J7_copyOfRangeByte_39247_14 : decode cJ7_copyOfRangeByte_39247 14 = .ok (.aload_n 0, 1) := dkAt dk_J7_copyOfRangeByte_39247 10 rfl
theorem dj_J7_copyOfRangeByte_39247_15 : decode cJ7_copyOfRangeByte_39247 15 = .ok (.iload_n 1, 1) := dkAt dk_J7_copyOfRangeByte_39247 11 rfl
theorem dj_J7_copyOfRangeByte_39247_16 : decode cJ7_copyOfRangeByte_39247 16 = .ok (.aload 4, 2) := dkAt dk_J7_copyOfRangeByte_39247 12 rfl
theorem dj_J7_copyOfRangeByte_39247_18 : decode cJ7_copyOfRangeByte_39247 18 = .ok (.iconst 0, 1) := dkAt dk_J7_copyOfRangeByte_39247 13 rfl
theorem dj_J7_copyOfRangeByte_39247_19 : decode cJ7_copyOfRangeByte_39247 19 = .ok (.aload_n 0, 1) := dkAt dk_J7_copyOfRangeByte_39247 14 rfl
theorem dj_J7_copyOfRangeByte_39247_20 : decode cJ7_copyOfRangeByte_39247 20 = .ok (.arraylength, 1) := dkAt dk_J7_copyOfRangeByte_39247 15 rfl
theorem dj_J7_copyOfRangeByte_39247_21 : decode cJ7_copyOfRangeByte_39247 21 = .ok (.iload_n 1, 1) := dkAt dk_J7_copyOfRangeByte_39247 16 rfl
theorem dj_J7_copyOfRangeByte_39247_22 : decode cJ7_copyOfRangeByte_39247 22 = .ok (.isub, 1) := dkAt dk_J7_copyOfRangeByte_39247 17 rfl
theorem dj_J7_copyOfRangeByte_39247_23 : decode cJ7_copyOfRangeByte_39247 23 = .ok (.iload_n 3, 1) := dkAt dk_J7_copyOfRangeByte_39247 18 rfl
theorem dj_J7_copyOfRangeByte_39247_24 : decode cJ7_copyOfRangeByte_39247 24 = .ok (.invokestatic 304, 3) := dkAt dk_J7_copyOfRangeByte_39247 19 rfl
theorem dj_J7_copyOfRangeByte_39247_27 : decode cJ7_copyOfRangeByte_39247 27 = .ok (.invokestatic 150, 3) := dkAt dk_J7_copyOfRangeByte_39247 20 rfl
theorem dj_J7_copyOfRangeByte_39247_30 : decode cJ7_copyOfRangeByte_39247 30 = .ok (.aload 4, 2) := dkAt dk_J7_copyOfRangeByte_39247 21 rfl
theorem dj_J7_copyOfRangeByte_39247_32 : decode cJ7_copyOfRangeByte_39247 32 = .ok (.areturn, 1) := dkAt dk_J7_copyOfRangeByte_39247 22 rfl
theorem mw_J8_newLength_cabcc : MW yJ8_newLength_cabcc cJ8_newLength_cabcc 4 (some .int) 3 := ⟨gd 53 (by decide +kernel) rfl, gd 548 (by decide +kernel) rfl, ⟨by decide, by decide⟩, by decide +kernel⟩
theorem ms_J8_newLength_cabcc : Gd (.static yJ8_newLength_cabcc) := gd 547 (by decide +kernel) rfl
theorem dj_J8_newLength_cabcc_0 : decode cJ8_newLength_cabcc 0 = .ok (.iload_n 0, 1) := dkAt dk_J8_newLength_cabcc 0 rfl
theorem dj_J8_newLength_cabcc_1 : decode cJ8_newLength_cabcc 1 = .ok (.iload_n 1, 1) := dkAt dk_J8_newLength_cabcc 1 rfl
theorem dj_J8_newLength_cabcc_2 : decode cJ8_newLength_cabcc 2 = .ok (.iload_n 2, 1) := dkAt dk_J8_newLength_cabcc 2 rfl
theorem dj_J8_newLength_cabcc_3 : decode cJ8_newLength_cabcc 3 = .ok (.invokestatic 194, 3) := dkAt dk_J8_newLength_cabcc 3 rfl
theorem dj_J8_newLength_cabcc_6 : decode cJ8_newLength_cabcc 6 = .ok (.iadd, 1) := dkAt dk_J8_newLength_cabcc 4 rfl
theorem dj_J8_newLength_cabcc_7 : decode cJ8_newLength_cabcc 7 = .ok (.istore_n 3, 1) := dkAt dk_J8_newLength_cabcc 5 rfl
theorem dj_J8_newLength_cabcc_8 : decode cJ8_newLength_cabcc 8 = .ok (.iconst 0, 1) := dkAt dk_J8_newLength_cabcc 6 rfl
theorem dj_J8_newLength_cabcc_9 : decode cJ8_newLength_cabcc 9 = .ok (.iload_n 3, 1) := dkAt dk_J8_newLength_cabcc 7 rfl
theorem dj_J8_newLength_cabcc_10 : decode cJ8_newLength_cabcc 10 = .ok (.if_icmp .ge 11, 3) := dkAt dk_J8_newLength_cabcc 8 rfl
theorem dj_J8_newLength_cabcc_13 : decode cJ8_newLength_cabcc 13 = .ok (.iload_n 3, 1) := dkAt dk_J8_newLength_cabcc 9 rfl
theorem dj_J8_newLength_cabcc_14 : decode cJ8_newLength_cabcc 14 = .ok (.ldc 200, 2) := dkAt dk_J8_newLength_cabcc 10 rfl
theorem dj_J8_newLength_cabcc_16 : decode cJ8_newLength_cabcc 16 = .ok (.if_icmp .gt 5, 3) := dkAt dk_J8_newLength_cabcc 11 rfl
theorem dj_J8_newLength_cabcc_19 : decode cJ8_newLength_cabcc 19 = .ok (.iload_n 3, 1) := dkAt dk_J8_newLength_cabcc 12 rfl
theorem dj_J8_newLength_cabcc_20 : decode cJ8_newLength_cabcc 20 = .ok (.ireturn, 1) := dkAt dk_J8_newLength_cabcc 13 rfl
theorem dj_J8_newLength_cabcc_21 : decode cJ8_newLength_cabcc 21 = .ok (.iload_n 0, 1) := dkAt dk_J8_newLength_cabcc 14 rfl
theorem dj_J8_newLength_cabcc_22 : decode cJ8_newLength_cabcc 22 = .ok (.iload_n 1, 1) := dkAt dk_J8_newLength_cabcc 15 rfl
theorem dj_J8_newLength_cabcc_23 : decode cJ8_newLength_cabcc 23 = .ok (.invokestatic 201, 3) := dkAt dk_J8_newLength_cabcc 16 rfl
theorem dj_J8_newLength_cabcc_26 : decode cJ8_newLength_cabcc 26 = .ok (.ireturn, 1) := dkAt dk_J8_newLength_cabcc 17 rfl
theorem mw_J8_hugeLength_7cf53 : MW yJ8_hugeLength_7cf53 cJ8_hugeLength_7cf53 3 (some .int) 2 := ⟨gd 53 (by decide +kernel) rfl, gd 555 (by decide +kernel) rfl, ⟨by decide, by decide⟩, by decide +kernel⟩
theorem ms_J8_hugeLength_7cf53 : Gd (.static yJ8_hugeLength_7cf53) := gd 554 (by decide +kernel) rfl
theorem dj_J8_hugeLength_7cf53_0 : decode cJ8_hugeLength_7cf53 0 = .ok (.iload_n 0, 1) := dkAt dk_J8_hugeLength_7cf53 0 rfl
theorem dj_J8_hugeLength_7cf53_1 : decode cJ8_hugeLength_7cf53 1 = .ok (.iload_n 1, 1) := dkAt dk_J8_hugeLength_7cf53 1 rfl
theorem dj_J8_hugeLength_7cf53_2 : decode cJ8_hugeLength_7cf53 2 = .ok (.iadd, 1) := dkAt dk_J8_hugeLength_7cf53 2 rfl
theorem dj_J8_hugeLength_7cf53_3 : decode cJ8_hugeLength_7cf53 3 = .ok (.istore_n 2, 1) := dkAt dk_J8_hugeLength_7cf53 3 rfl
theorem dj_J8_hugeLength_7cf53_4 : decode cJ8_hugeLength_7cf53 4 = .ok (.iload_n 2, 1) := dkAt dk_J8_hugeLength_7cf53 4 rfl
theorem dj_J8_hugeLength_7cf53_5 : decode cJ8_hugeLength_7cf53 5 = .ok (.ifCond .ge 44, 3) := dkAt dk_J8_hugeLength_7cf53 5 rfl
theorem dj_J8_hugeLength_7cf53_8 : decode cJ8_hugeLength_7cf53 8 = .ok (.new 204, 3) := dkAt dk_J8_hugeLength_7cf53 6 rfl
theorem dj_J8_hugeLength_7cf53_11 : decode cJ8_hugeLength_7cf53 11 = .ok (.dup, 1) := dkAt dk_J8_hugeLength_7cf53 7 rfl
theorem dj_J8_hugeLength_7cf53_12 : decode cJ8_hugeLength_7cf53 12 = .ok (.new 89, 3) := dkAt dk_J8_hugeLength_7cf53 8 rfl
theorem dj_J8_hugeLength_7cf53_15 : decode cJ8_hugeLength_7cf53 15 = .ok (.dup, 1) := dkAt dk_J8_hugeLength_7cf53 9 rfl
theorem dj_J8_hugeLength_7cf53_16 : decode cJ8_hugeLength_7cf53 16 = .ok (.invokespecial 91, 3) := dkAt dk_J8_hugeLength_7cf53 10 rfl
theorem dj_J8_hugeLength_7cf53_19 : decode cJ8_hugeLength_7cf53 19 = .ok (.ldc 206, 2) := dkAt dk_J8_hugeLength_7cf53 11 rfl
theorem dj_J8_hugeLength_7cf53_21 : decode cJ8_hugeLength_7cf53 21 = .ok (.invokevirtual 94, 3) := dkAt dk_J8_hugeLength_7cf53 12 rfl
theorem dj_J8_hugeLength_7cf53_24 : decode cJ8_hugeLength_7cf53 24 = .ok (.iload_n 0, 1) := dkAt dk_J8_hugeLength_7cf53 13 rfl
theorem dj_J8_hugeLength_7cf53_25 : decode cJ8_hugeLength_7cf53 25 = .ok (.invokevirtual 98, 3) := dkAt dk_J8_hugeLength_7cf53 14 rfl
theorem dj_J8_hugeLength_7cf53_28 : decode cJ8_hugeLength_7cf53 28 = .ok (.ldc 208, 2) := dkAt dk_J8_hugeLength_7cf53 15 rfl
theorem dj_J8_hugeLength_7cf53_30 : decode cJ8_hugeLength_7cf53 30 = .ok (.invokevirtual 94, 3) := dkAt dk_J8_hugeLength_7cf53 16 rfl
theorem dj_J8_hugeLength_7cf53_33 : decode cJ8_hugeLength_7cf53 33 = .ok (.iload_n 1, 1) := dkAt dk_J8_hugeLength_7cf53 17 rfl
theorem dj_J8_hugeLength_7cf53_34 : decode cJ8_hugeLength_7cf53 34 = .ok (.invokevirtual 98, 3) := dkAt dk_J8_hugeLength_7cf53 18 rfl
theorem dj_J8_hugeLength_7cf53_37 : decode cJ8_hugeLength_7cf53 37 = .ok (.ldc 210, 2) := dkAt dk_J8_hugeLength_7cf53 19 rfl
theorem dj_J8_hugeLength_7cf53_39 : decode cJ8_hugeLength_7cf53 39 = .ok (.invokevirtual 94, 3) := dkAt dk_J8_hugeLength_7cf53 20 rfl
theorem dj_J8_hugeLength_7cf53_42 : decode cJ8_hugeLength_7cf53 42 = .ok (.invokevirtual 101, 3) := dkAt dk_J8_hugeLength_7cf53 21 rfl
theorem dj_J8_hugeLength_7cf53_45 : decode cJ8_hugeLength_7cf53 45 = .ok (.invokespecial 212, 3) := dkAt dk_J8_hugeLength_7cf53 22 rfl
theorem dj_J8_hugeLength_7cf53_48 : decode cJ8_hugeLength_7cf53 48 = .ok (.athrow, 1) := dkAt dk_J8_hugeLength_7cf53 23 rfl
theorem dj_J8_hugeLength_7cf53_49 : decode cJ8_hugeLength_7cf53 49 = .ok (.iload_n 2, 1) := dkAt dk_J8_hugeLength_7cf53 24 rfl
theorem dj_J8_hugeLength_7cf53_50 : decode cJ8_hugeLength_7cf53 50 = .ok (.ldc 200, 2) := dkAt dk_J8_hugeLength_7cf53 25 rfl
theorem dj_J8_hugeLength_7cf53_52 : decode cJ8_hugeLength_7cf53 52 = .ok (.if_icmp .gt 6, 3) := dkAt dk_J8_hugeLength_7cf53 26 rfl
theorem dj_J8_hugeLength_7cf53_55 : decode cJ8_hugeLength_7cf53 55 = .ok (.ldc 200, 2) := dkAt dk_J8_hugeLength_7cf53 27 rfl
theorem dj_J8_hugeLength_7cf53_57 : decode cJ8_hugeLength_7cf53 57 = .ok (.ireturn, 1) := dkAt dk_J8_hugeLength_7cf53 28 rfl
theorem dj_J8_hugeLength_7cf53_58 : decode cJ8_hugeLength_7cf53 58 = .ok (.iload_n 2, 1) := dkAt dk_J8_hugeLength_7cf53 29 rfl
theorem dj_J8_hugeLength_7cf53_59 : decode cJ8_hugeLength_7cf53 59 = .ok (.ireturn, 1) := dkAt dk_J8_hugeLength_7cf53 30 rfl
theorem mw_J3_checkIndex_8e157 : MW yJ3_checkIndex_8e157 cJ3_checkIndex_8e157 3 (some .int) 3 := ⟨gd 57 (by decide +kernel) rfl, gd 721 (by decide +kernel) rfl, ⟨by decide, by decide⟩, by decide +kernel⟩
theorem ms_J3_checkIndex_8e157 : Gd (.static yJ3_checkIndex_8e157) := gd 720 (by decide +kernel) rfl
theorem dj_J3_checkIndex_8e157_0 : decode cJ3_checkIndex_8e157 0 = .ok (.iload_n 0, 1) := dkAt dk_J3_checkIndex_8e157 0 rfl
theorem dj_J3_checkIndex_8e157_1 : decode cJ3_checkIndex_8e157 1 = .ok (.ifCond .lt 8, 3) := dkAt dk_J3_checkIndex_8e157 1 rfl
theorem dj_J3_checkIndex_8e157_4 : decode cJ3_checkIndex_8e157 4 = .ok (.iload_n 0, 1) := dkAt dk_J3_checkIndex_8e157 2 rfl
theorem dj_J3_checkIndex_8e157_5 : decode cJ3_checkIndex_8e157 5 = .ok (.iload_n 1, 1) := dkAt dk_J3_checkIndex_8e157 3 rfl
theorem dj_J3_checkIndex_8e157_6 : decode cJ3_checkIndex_8e157 6 = .ok (.if_icmp .lt 10, 3) := dkAt dk_J3_checkIndex_8e157 4 rfl
theorem dj_J3_checkIndex_8e157_9 : decode cJ3_checkIndex_8e157 9 = .ok (.aload_n 2, 1) := dkAt dk_J3_checkIndex_8e157 5 rfl
theorem dj_J3_checkIndex_8e157_10 : decode cJ3_checkIndex_8e157 10 = .ok (.iload_n 0, 1) := dkAt dk_J3_checkIndex_8e157 6 rfl
theorem dj_J3_checkIndex_8e157_11 : decode cJ3_checkIndex_8e157 11 = .ok (.iload_n 1, 1) := dkAt dk_J3_checkIndex_8e157 7 rfl
theorem dj_J3_checkIndex_8e157_12 : decode cJ3_checkIndex_8e157 12 = .ok (.invokestatic 95, 3) := dkAt dk_J3_checkIndex_8e157 8 rfl
theorem dj_J3_checkIndex_8e157_15 : decode cJ3_checkIndex_8e157 15 = .ok (.athrow, 1) := dkAt dk_J3_checkIndex_8e157 9 rfl
theorem dj_J3_checkIndex_8e157_16 : decode cJ3_checkIndex_8e157 16 = .ok (.iload_n 0, 1) := dkAt dk_J3_checkIndex_8e157 10 rfl
theorem dj_J3_checkIndex_8e157_17 : decode cJ3_checkIndex_8e157 17 = .ok (.ireturn, 1) := dkAt dk_J3_checkIndex_8e157 11 rfl
theorem mw_J3_checkFromToIndex_8c36e : MW yJ3_checkFromToIndex_8c36e cJ3_checkFromToIndex_8c36e 4 (some .int) 4 := ⟨gd 57 (by decide +kernel) rfl, gd 594 (by decide +kernel) rfl, ⟨by decide, by decide⟩, by decide +kernel⟩
theorem ms_J3_checkFromToIndex_8c36e : Gd (.static yJ3_checkFromToIndex_8c36e) := gd 593 (by decide +kernel) rfl
theorem dj_J3_checkFromToIndex_8c36e_0 : decode cJ3_checkFromToIndex_8c36e 0 = .ok (.iload_n 0, 1) := dkAt dk_J3_checkFromToIndex_8c36e 0 rfl
theorem dj_J3_checkFromToIndex_8c36e_1 : decode cJ3_checkFromToIndex_8c36e 1 = .ok (.ifCond .lt 13, 3) := dkAt dk_J3_checkFromToIndex_8c36e 1 rfl
theorem dj_J3_checkFromToIndex_8c36e_4 : decode cJ3_checkFromToIndex_8c36e 4 = .ok (.iload_n 0, 1) := dkAt dk_J3_checkFromToIndex_8c36e 2 rfl
theorem dj_J3_checkFromToIndex_8c36e_5 : decode cJ3_checkFromToIndex_8c36e 5 = .ok (.iload_n 1, 1) := dkAt dk_J3_checkFromToIndex_8c36e 3 rfl
theorem dj_J3_checkFromToIndex_8c36e_6 : decode cJ3_checkFromToIndex_8c36e 6 = .ok (.if_icmp .gt 8, 3) := dkAt dk_J3_checkFromToIndex_8c36e 4 rfl
theorem dj_J3_checkFromToIndex_8c36e_9 : decode cJ3_checkFromToIndex_8c36e 9 = .ok (.iload_n 1, 1) := dkAt dk_J3_checkFromToIndex_8c36e 5 rfl
theorem dj_J3_checkFromToIndex_8c36e_10 : decode cJ3_checkFromToIndex_8c36e 10 = .ok (.iload_n 2, 1) := dkAt dk_J3_checkFromToIndex_8c36e 6 rfl
theorem dj_J3_checkFromToIndex_8c36e_11 : decode cJ3_checkFromToIndex_8c36e 11 = .ok (.if_icmp .le 11, 3) := dkAt dk_J3_checkFromToIndex_8c36e 7 rfl
theorem dj_J3_checkFromToIndex_8c36e_14 : decode cJ3_checkFromToIndex_8c36e 14 = .ok (.aload_n 3, 1) := dkAt dk_J3_checkFromToIndex_8c36e 8 rfl
theorem dj_J3_checkFromToIndex_8c36e_15 : decode cJ3_checkFromToIndex_8c36e 15 = .ok (.iload_n 0, 1) := dkAt dk_J3_checkFromToIndex_8c36e 9 rfl
theorem dj_J3_checkFromToIndex_8c36e_16 : decode cJ3_checkFromToIndex_8c36e 16 = .ok (.iload_n 1, 1) := dkAt dk_J3_checkFromToIndex_8c36e 10 rfl
theorem dj_J3_checkFromToIndex_8c36e_17 : decode cJ3_checkFromToIndex_8c36e 17 = .ok (.iload_n 2, 1) := dkAt dk_J3_checkFromToIndex_8c36e 11 rfl
theorem dj_J3_checkFromToIndex_8c36e_18 : decode cJ3_checkFromToIndex_8c36e 18 = .ok (.invokestatic 99, 3) := dkAt dk_J3_checkFromToIndex_8c36e 12 rfl
theorem dj_J3_checkFromToIndex_8c36e_21 : decode cJ3_checkFromToIndex_8c36e 21 = .ok (.athrow, 1) := dkAt dk_J3_checkFromToIndex_8c36e 13 rfl
theorem dj_J3_checkFromToIndex_8c36e_22 : decode cJ3_checkFromToIndex_8c36e 22 = .ok (.iload_n 0, 1) := dkAt dk_J3_checkFromToIndex_8c36e 14 rfl
theorem dj_J3_checkFromToIndex_8c36e_23 : decode cJ3_checkFromToIndex_8c36e 23 = .ok (.ireturn, 1) := dkAt dk_J3_checkFromToIndex_8c36e 15 rfl
theorem mw_J3_checkFromIndexSize_8c36e : MW yJ3_checkFromIndexSize_8c36e cJ3_checkFromIndexSize_8c36e 4 (some .int) 4 := ⟨gd 57 (by decide +kernel) rfl, gd 630 (by decide +kernel) rfl, ⟨by decide, by decide⟩, by decide +kernel⟩
theorem ms_J3_checkFromIndexSize_8c36e : Gd (.static yJ3_checkFromIndexSize_8c36e) := gd 629 (by decide +kernel) rfl
theorem dj_J3_checkFromIndexSize_8c36e_0 : decode cJ3_checkFromIndexSize_8c36e 0 = .ok (.iload_n 2, 1) := dkAt dk_J3_checkFromIndexSize_8c36e 0 rfl
theorem dj_J3_checkFromIndexSize_8c36e_1 : decode cJ3_checkFromIndexSize_8c36e 1 = .ok (.iload_n 0, 1) := dkAt dk_J3_checkFromIndexSize_8c36e 1 rfl
theorem dj_J3_checkFromIndexSize_8c36e_2 : decode cJ3_checkFromIndexSize_8c36e 2 = .ok (.ior, 1) := dkAt dk_J3_checkFromIndexSize_8c36e 2 rfl
theorem dj_J3_checkFromIndexSize_8c36e_3 : decode cJ3_checkFromIndexSize_8c36e 3 = .ok (.iload_n 1, 1) := dkAt dk_J3_checkFromIndexSize_8c36e 3 rfl
theorem dj_J3_checkFromIndexSize_8c36e_4 : decode cJ3_checkFromIndexSize_8c36e 4 = .ok (.ior, 1) := dkAt dk_J3_checkFromIndexSize_8c36e 4 rfl
theorem dj_J3_checkFromIndexSize_8c36e_5 : decode cJ3_checkFromIndexSize_8c36e 5 = .ok (.ifCond .lt 10, 3) := dkAt dk_J3_checkFromIndexSize_8c36e 5 rfl
theorem dj_J3_checkFromIndexSize_8c36e_8 : decode cJ3_checkFromIndexSize_8c36e 8 = .ok (.iload_n 1, 1) := dkAt dk_J3_checkFromIndexSize_8c36e 6 rfl
theorem dj_J3_checkFromIndexSize_8c36e_9 : decode cJ3_checkFromIndexSize_8c36e 9 = .ok (.iload_n 2, 1) := dkAt dk_J3_checkFromIndexSize_8c36e 7 rfl
theorem dj_J3_checkFromIndexSize_8c36e_10 : decode cJ3_checkFromIndexSize_8c36e 10 = .ok (.iload_n 0, 1) := dkAt dk_J3_checkFromIndexSize_8c36e 8 rfl
theorem dj_J3_checkFromIndexSize_8c36e_11 : decode cJ3_checkFromIndexSize_8c36e 11 = .ok (.isub, 1) := dkAt dk_J3_checkFromIndexSize_8c36e 9 rfl
theorem dj_J3_checkFromIndexSize_8c36e_12 : decode cJ3_checkFromIndexSize_8c36e 12 = .ok (.if_icmp .le 11, 3) := dkAt dk_J3_checkFromIndexSize_8c36e 10 rfl
theorem dj_J3_checkFromIndexSize_8c36e_15 : decode cJ3_checkFromIndexSize_8c36e 15 = .ok (.aload_n 3, 1) := dkAt dk_J3_checkFromIndexSize_8c36e 11 rfl
theorem dj_J3_checkFromIndexSize_8c36e_16 : decode cJ3_checkFromIndexSize_8c36e 16 = .ok (.iload_n 0, 1) := dkAt dk_J3_checkFromIndexSize_8c36e 12 rfl
theorem dj_J3_checkFromIndexSize_8c36e_17 : decode cJ3_checkFromIndexSize_8c36e 17 = .ok (.iload_n 1, 1) := dkAt dk_J3_checkFromIndexSize_8c36e 13 rfl
theorem dj_J3_checkFromIndexSize_8c36e_18 : decode cJ3_checkFromIndexSize_8c36e 18 = .ok (.iload_n 2, 1) := dkAt dk_J3_checkFromIndexSize_8c36e 14 rfl
theorem dj_J3_checkFromIndexSize_8c36e_19 : decode cJ3_checkFromIndexSize_8c36e 19 = .ok (.invokestatic 103, 3) := dkAt dk_J3_checkFromIndexSize_8c36e 15 rfl
theorem dj_J3_checkFromIndexSize_8c36e_22 : decode cJ3_checkFromIndexSize_8c36e 22 = .ok (.athrow, 1) := dkAt dk_J3_checkFromIndexSize_8c36e 16 rfl
theorem dj_J3_checkFromIndexSize_8c36e_23 : decode cJ3_checkFromIndexSize_8c36e 23 = .ok (.iload_n 0, 1) := dkAt dk_J3_checkFromIndexSize_8c36e 17 rfl
theorem dj_J3_checkFromIndexSize_8c36e_24 : decode cJ3_checkFromIndexSize_8c36e 24 = .ok (.ireturn, 1) := dkAt dk_J3_checkFromIndexSize_8c36e 18 rfl
theorem ln_RJ4_7 : Gd (.methodLink RJ4 7 yJ5_init_a7421) := gd 497 (by decide +kernel) rfl
theorem ln_RJ5_3 : Gd (.methodLink RJ5 3 objectInit) := gd 500 (by decide +kernel) rfl
theorem ln_RJ5_32 : Gd (.methodLink RJ5 32 yJ0_length_8abf5) := gd 501 (by decide +kernel) rfl
theorem ln_RJ0_335 : Gd (.methodLink RJ0 335 yJ0_coder_7d493) := gd 505 (by decide +kernel) rfl
theorem ln_RJ5_40 : Gd (.methodLink RJ5 40 yJ0_coder_7d493) := gd 513 (by decide +kernel) rfl
theorem ln_RJ5_26 : Gd (.methodLink RJ5 26 yJ2_newBytesFor_77867) := gd 514 (by decide +kernel) rfl
theorem ln_RJ2_11 : Gd (.methodLink RJ2 11 yJ2_newBytesLength_0f7a4) := gd 517 (by decide +kernel) rfl
theorem ln_RJ5_43 : Gd (.methodLink RJ5 43 yJ5_append_cf1ce) := gd 521 (by decide +kernel) rfl
theorem ln_RJ4_23 : Gd (.methodLink RJ4 23 yJ4_append_15ec4) := gd 527 (by decide +kernel) rfl
theorem ln_RJ4_29 : Gd (.methodLink RJ4 29 yJ5_append_cf1ce) := gd 531 (by decide +kernel) rfl
theorem ln_RJ5_204 : Gd (.methodLink RJ5 204 yJ5_appendNull_278bc) := gd 534 (by decide +kernel) rfl
theorem ln_RJ5_100 : Gd (.methodLink RJ5 100 yJ5_ensureCapacityInternal_d00df) := gd 538 (by decide +kernel) rfl
theorem ln_RJ5_104 : Gd (.methodLink RJ5 104 yJ5_newCapacity_0f7a4) := gd 542 (by decide +kernel) rfl
theorem ln_RJ5_114 : Gd (.methodLink RJ5 114 yJ8_newLength_cabcc) := gd 546 (by decide +kernel) rfl
theorem ln_RJ8_194 : Gd (.methodLink RJ8 194 yJ9_max_7cf53) := gd 549 (by decide +kernel) rfl
theorem ln_RJ8_201 : Gd (.methodLink RJ8 201 yJ8_hugeLength_7cf53) := gd 553 (by decide +kernel) rfl
theorem ln_RJ5_108 : Gd (.methodLink RJ5 108 yJ7_copyOf_9075b) := gd 556 (by decide +kernel) rfl
theorem ln_RJ7_304 : Gd (.methodLink RJ7 304 yJ9_min_7cf53) := gd 566 (by decide +kernel) rfl
theorem ln_RJ7_150 : Gd (.methodLink RJ7 150 arraycopyName) := gd 569 (by decide +kernel) rfl
theorem ln_RJ5_83 : Gd (.methodLink RJ5 83 yJ5_isLatin1_aae02) := gd 572 (by decide +kernel) rfl
theorem ln_RJ5_226 : Gd (.methodLink RJ5 226 yJ2_putCharsAt_cd4e5) := gd 578 (by decide +kernel) rfl
theorem ln_RJ2_96 : Gd (.methodLink RJ2 96 yJ2_checkBoundsBeginEnd_d044e) := gd 581 (by decide +kernel) rfl
theorem ln_RJ2_48 : Gd (.methodLink RJ2 48 yJ2_length_9d52b) := gd 584 (by decide +kernel) rfl
theorem ln_RJ2_241 : Gd (.methodLink RJ2 241 yJ0_checkBoundsBeginEnd_23922) := gd 587 (by decide +kernel) rfl
theorem ln_RJ0_1062 : Gd (.methodLink RJ0 1062 yJ3_checkFromToIndex_8c36e) := gd 592 (by decide +kernel) rfl
theorem ln_RJ2_111 : Gd (.methodLink RJ2 111 yJ2_putChar_b72d1) := gd 595 (by decide +kernel) rfl
theorem ln_RJ5_208 : Gd (.methodLink RJ5 208 yJ5_putStringAt_47b60) := gd 604 (by decide +kernel) rfl
theorem ln_RJ5_397 : Gd (.methodLink RJ5 397 yJ5_inflateIfNeededFor_a7421) := gd 608 (by decide +kernel) rfl
theorem ln_RJ5_195 : Gd (.methodLink RJ5 195 yJ5_inflate_da8c8) := gd 612 (by decide +kernel) rfl
theorem ln_RJ5_125 : Gd (.methodLink RJ5 125 yJ1_inflate_0e8fd) := gd 616 (by decide +kernel) rfl
theorem ln_RJ1_240 : Gd (.methodLink RJ1 240 yJ2_inflate_0e8fd) := gd 619 (by decide +kernel) rfl
theorem ln_RJ2_173 : Gd (.methodLink RJ2 173 yJ2_checkBoundsOffCount_d044e) := gd 622 (by decide +kernel) rfl
theorem ln_RJ2_419 : Gd (.methodLink RJ2 419 yJ0_checkBoundsOffCount_cabcc) := gd 625 (by decide +kernel) rfl
theorem ln_RJ0_1065 : Gd (.methodLink RJ0 1065 yJ3_checkFromIndexSize_8c36e) := gd 628 (by decide +kernel) rfl
theorem ln_RJ5_399 : Gd (.methodLink RJ5 399 yJ0_getBytes_840e7) := gd 631 (by decide +kernel) rfl
theorem ln_RJ0_212 : Gd (.methodLink RJ0 212 arraycopyName) := gd 635 (by decide +kernel) rfl
theorem ln_RJ0_106 : Gd (.methodLink RJ0 106 yJ1_inflate_0e8fd) := gd 636 (by decide +kernel) rfl
theorem ln_RJ4_53 : Gd (.methodLink RJ4 53 yJ5_append_c97b9) := gd 664 (by decide +kernel) rfl
theorem ln_RJ5_245 : Gd (.methodLink RJ5 245 yJ6_stringSize_0f7a4) := gd 667 (by decide +kernel) rfl
theorem ln_RJ5_248 : Gd (.methodLink RJ5 248 yJ6_getChars_ba4f3) := gd 670 (by decide +kernel) rfl
theorem ln_RJ5_251 : Gd (.methodLink RJ5 251 yJ2_getChars_46870) := gd 677 (by decide +kernel) rfl
theorem ln_RJ2_393 : Gd (.methodLink RJ2 393 yJ2_getChars_ba4f3) := gd 680 (by decide +kernel) rfl
theorem ln_RJ4_50 : Gd (.methodLink RJ4 50 yJ5_append_3fe6f) := gd 704 (by decide +kernel) rfl
theorem ln_RJ5_191 : Gd (.methodLink RJ5 191 yJ1_canEncode_fc78d) := gd 707 (by decide +kernel) rfl
theorem ln_RJ5_197 : Gd (.methodLink RJ5 197 yJ2_putCharSB_b72d1) := gd 710 (by decide +kernel) rfl
theorem ln_RJ2_67 : Gd (.methodLink RJ2 67 yJ2_checkIndex_2214a) := gd 713 (by decide +kernel) rfl
theorem ln_RJ2_414 : Gd (.methodLink RJ2 414 yJ0_checkIndex_df160) := gd 716 (by decide +kernel) rfl
theorem ln_RJ0_1059 : Gd (.methodLink RJ0 1059 yJ3_checkIndex_8e157) := gd 719 (by decide +kernel) rfl
theorem ln_RJ0_492 : Gd (.methodLink RJ0 492 yJ0_isLatin1_aae02) := gd 821 (by decide +kernel) rfl
theorem ln_RJ0_495 : Gd (.methodLink RJ0 495 yJ1_charAt_3b067) := gd 825 (by decide +kernel) rfl
theorem ln_RJ1_9 : Gd (.methodLink RJ1 9 yJ0_checkIndex_df160) := gd 828 (by decide +kernel) rfl
theorem ln_RJ0_498 : Gd (.methodLink RJ0 498 yJ2_charAt_3b067) := gd 829 (by decide +kernel) rfl
theorem ln_RJ2_71 : Gd (.methodLink RJ2 71 yJ2_getChar_3b067) := gd 832 (by decide +kernel) rfl
theorem ln_RJ4_137 : Gd (.methodLink RJ4 137 yJ0_init_81219) := gd 1612 (by decide +kernel) rfl
theorem ln_RJ0_489 : Gd (.methodLink RJ0 489 yJ0_init_db425) := gd 1615 (by decide +kernel) rfl
theorem ln_RJ0_1 : Gd (.methodLink RJ0 1 objectInit) := gd 1618 (by decide +kernel) rfl
theorem ln_RJ0_552 : Gd (.methodLink RJ0 552 yJ5_getValue_6d5f1) := gd 1619 (by decide +kernel) rfl
theorem ln_RJ0_549 : Gd (.methodLink RJ0 549 yJ5_length_8abf5) := gd 1624 (by decide +kernel) rfl
theorem ln_RJ4_343 : Gd (.methodLink RJ4 343 yJ5_length_8abf5) := gd 1630 (by decide +kernel) rfl
theorem ln_RJ0_1047 : Gd (.methodLink RJ0 1047 yJ5_isLatin1_aae02) := gd 1632 (by decide +kernel) rfl
theorem ln_RJ0_54 : Gd (.methodLink RJ0 54 yJ7_copyOfRange_39247) := gd 1633 (by decide +kernel) rfl
theorem ln_RJ7_339 : Gd (.methodLink RJ7 339 yJ7_copyOfRangeByte_39247) := gd 1636 (by decide +kernel) rfl
theorem ln_RJ7_343 : Gd (.methodLink RJ7 343 yJ7_checkLength_df160) := gd 1639 (by decide +kernel) rfl
theorem ln_RJ7_47 : Gd (.methodLink RJ7 47 yJ4_init_da8c8) := gd 1644 (by decide +kernel) rfl
theorem ln_RJ4_1 : Gd (.methodLink RJ4 1 yJ5_init_d00df) := gd 1647 (by decide +kernel) rfl
theorem ln_RJ7_54 : Gd (.methodLink RJ7 54 yJ4_append_bf812) := gd 1650 (by decide +kernel) rfl
theorem ln_RJ7_50 : Gd (.methodLink RJ7 50 yJ4_append_15ec4) := gd 1652 (by decide +kernel) rfl
theorem ln_RJ7_61 : Gd (.methodLink RJ7 61 yJ4_toString_0e30d) := gd 1653 (by decide +kernel) rfl
theorem ln_RJ0_1051 : Gd (.methodLink RJ0 1051 yJ2_compress_39247) := gd 1655 (by decide +kernel) rfl
theorem ln_RJ2_123 : Gd (.methodLink RJ2 123 yJ2_compress_5af95) := gd 1658 (by decide +kernel) rfl
theorem ln_RJ2_126 : Gd (.methodLink RJ2 126 yJ7_copyOfRange_39247) := gd 1661 (by decide +kernel) rfl
theorem ln_RJ0_47 : Gd (.methodLink RJ0 47 yJ2_coderFromArrayLen_85cad) := gd 1662 (by decide +kernel) rfl
theorem fl_RJ0_38 : Gd (.fieldLink RJ0 38 "java/lang/String" "COMPACT_STRINGS" "Z") := gd 509 (by decide +kernel) rfl
theorem fl_RJ5_18 : Gd (.fieldLink RJ5 18 "java/lang/String" "COMPACT_STRINGS" "Z") := gd 577 (by decide +kernel) rfl
theorem fl_RJ0_1053 : Gd (.fieldLink RJ0 1053 "jdk/internal/util/Preconditions" "SIOOBE_FORMATTER" "Ljava/util/function/BiFunction;") := gd 590 (by decide +kernel) rfl
theorem fl_RJ2_44 : Gd (.fieldLink RJ2 44 "java/lang/StringUTF16" "$assertionsDisabled" "Z") := gd 598 (by decide +kernel) rfl
theorem fl_RJ2_59 : Gd (.fieldLink RJ2 59 "java/lang/StringUTF16" "HI_BYTE_SHIFT" "I") := gd 600 (by decide +kernel) rfl
theorem fl_RJ2_63 : Gd (.fieldLink RJ2 63 "java/lang/StringUTF16" "LO_BYTE_SHIFT" "I") := gd 602 (by decide +kernel) rfl
theorem fl_RJ5_15 : Gd (.fieldLink RJ5 15 "java/lang/AbstractStringBuilder" "value" "[B") := gd 637 (by decide +kernel) rfl
theorem fl_RJ5_22 : Gd (.fieldLink RJ5 22 "java/lang/AbstractStringBuilder" "coder" "B") := gd 638 (by decide +kernel) rfl
theorem fl_RJ0_1048 : Gd (.fieldLink RJ0 1048 "java/lang/AbstractStringBuilder" "maybeLatin1" "Z") := gd 639 (by decide +kernel) rfl
theorem fl_RJ5_79 : Gd (.fieldLink RJ5 79 "java/lang/AbstractStringBuilder" "count" "I") := gd 640 (by decide +kernel) rfl
theorem fl_RJ6_83 : Gd (.fieldLink RJ6 83 "java/lang/Integer" "DigitOnes" "[B") := gd 673 (by decide +kernel) rfl
theorem fl_RJ6_87 : Gd (.fieldLink RJ6 87 "java/lang/Integer" "DigitTens" "[B") := gd 675 (by decide +kernel) rfl
theorem fl_RJ2_403 : Gd (.fieldLink RJ2 403 "java/lang/Integer" "DigitOnes" "[B") := gd 683 (by decide +kernel) rfl
theorem fl_RJ2_407 : Gd (.fieldLink RJ2 407 "java/lang/Integer" "DigitTens" "[B") := gd 684 (by decide +kernel) rfl
theorem fl_RJ0_9 : Gd (.fieldLink RJ0 9 "java/lang/String" "value" "[B") := gd 1665 (by decide +kernel) rfl
theorem fl_RJ0_15 : Gd (.fieldLink RJ0 15 "java/lang/String" "coder" "B") := gd 1666 (by decide +kernel) rfl
theorem ll_maxI : Gd (.static Lib.Math.max.name) ∧ Gd (.initialized "java/lang/Math") ∧ Gd (.code Lib.Math.max.name Lib.Math.max.code 2 (some .int)) := ⟨gd 550 (by decide +kernel) rfl, gd 54 (by decide +kernel) rfl, gd 551 (by decide +kernel) rfl⟩
theorem ll_minI : Gd (.static Lib.Math.min.name) ∧ Gd (.initialized "java/lang/Math") ∧ Gd (.code Lib.Math.min.name Lib.Math.min.code 2 (some .int)) := ⟨gd 567 (by decide +kernel) rfl, gd 54 (by decide +kernel) rfl, gd 568 (by decide +kernel) rfl⟩
theorem ll_maxL : Gd (.static Lib.MathLoose.max_long.x) ∧ Gd (.initialized "java/lang/Math") ∧ Gd (.code Lib.MathLoose.max_long.x Lib.MathLoose.max_long.code 4 (some .long)) := ⟨gd 1253 (by decide +kernel) rfl, gd 54 (by decide +kernel) rfl, gd 1254 (by decide +kernel) rfl⟩
theorem ll_absI : Gd (.static Lib.Math.abs.name) ∧ Gd (.initialized "java/lang/Math") ∧ Gd (.code Lib.Math.abs.name Lib.Math.abs.code 1 (some .int)) := ⟨gd 697 (by decide +kernel) rfl, gd 54 (by decide +kernel) rfl, gd 698 (by decide +kernel) rfl⟩
theorem ll_copy : Gd (.native arraycopyName) ∧ Gd (.static arraycopyName) ∧ Gd (.initialized "java/lang/System") := ⟨gd 571 (by decide +kernel) rfl, gd 570 (by decide +kernel) rfl, gd 56 (by decide +kernel) rfl⟩
