theorem dJ5_init_a7421_0 : decode cJ5_init_a7421 0 = .ok (.aload_n 0, 1) := by decide +kernel
theorem dJ5_init_a7421_1 : decode cJ5_init_a7421 1 = .ok (.invokespecial 3, 3) := by decide +kernel
theorem dJ5_init_a7421_4 : decode cJ5_init_a7421 4 = .ok (.aload_n 1, 1) := by decide +kernel
theorem dJ5_init_a7421_5 : decode cJ5_init_a7421 5 = .ok (.invokevirtual 32, 3) := by decide +kernel
theorem dJ5_init_a7421_8 : decode cJ5_init_a7421 8 = .ok (.istore_n 2, 1) := by decide +kernel
theorem dJ5_init_a7421_9 : decode cJ5_init_a7421 9 = .ok (.iload_n 2, 1) := by decide +kernel
theorem dJ5_init_a7421_10 : decode cJ5_init_a7421 10 = .ok (.ldc 38, 2) := by decide +kernel
theorem dJ5_init_a7421_12 : decode cJ5_init_a7421 12 = .ok (.if_icmp .ge 10, 3) := by decide +kernel
theorem dJ5_init_a7421_15 : decode cJ5_init_a7421 15 = .ok (.iload_n 2, 1) := by decide +kernel
theorem dJ5_init_a7421_16 : decode cJ5_init_a7421 16 = .ok (.bipush 16, 2) := by decide +kernel
theorem dJ5_init_a7421_18 : decode cJ5_init_a7421 18 = .ok (.iadd, 1) := by decide +kernel
theorem dJ5_init_a7421_19 : decode cJ5_init_a7421 19 = .ok (.goto 5, 3) := by decide +kernel
theorem dJ5_init_a7421_22 : decode cJ5_init_a7421 22 = .ok (.ldc 39, 2) := by decide +kernel
theorem dJ5_init_a7421_24 : decode cJ5_init_a7421 24 = .ok (.istore_n 3, 1) := by decide +kernel
theorem dJ5_init_a7421_25 : decode cJ5_init_a7421 25 = .ok (.aload_n 1, 1) := by decide +kernel
theorem dJ5_init_a7421_26 : decode cJ5_init_a7421 26 = .ok (.invokevirtual 40, 3) := by decide +kernel
theorem dJ5_init_a7421_29 : decode cJ5_init_a7421 29 = .ok (.istore 4, 2) := by decide +kernel
theorem dJ5_init_a7421_31 : decode cJ5_init_a7421 31 = .ok (.aload_n 0, 1) := by decide +kernel
theorem dJ5_init_a7421_32 : decode cJ5_init_a7421 32 = .ok (.iload 4, 2) := by decide +kernel
theorem dJ5_init_a7421_34 : decode cJ5_init_a7421 34 = .ok (.putfield 22, 3) := by decide +kernel
theorem dJ5_init_a7421_37 : decode cJ5_init_a7421 37 = .ok (.aload_n 0, 1) := by decide +kernel
theorem dJ5_init_a7421_38 : decode cJ5_init_a7421 38 = .ok (.iload 4, 2) := by decide +kernel
theorem dJ5_init_a7421_40 : decode cJ5_init_a7421 40 = .ok (.ifCond .ne 9, 3) := by decide +kernel
theorem dJ5_init_a7421_43 : decode cJ5_init_a7421 43 = .ok (.iload_n 3, 1) := by decide +kernel
theorem dJ5_init_a7421_44 : decode cJ5_init_a7421 44 = .ok (.newarray .byte, 2) := by decide +kernel
theorem dJ5_init_a7421_46 : decode cJ5_init_a7421 46 = .ok (.goto 7, 3) := by decide +kernel
theorem dJ5_init_a7421_49 : decode cJ5_init_a7421 49 = .ok (.iload_n 3, 1) := by decide +kernel
theorem dJ5_init_a7421_50 : decode cJ5_init_a7421 50 = .ok (.invokestatic 26, 3) := by decide +kernel
theorem dJ5_init_a7421_53 : decode cJ5_init_a7421 53 = .ok (.putfield 15, 3) := by decide +kernel
theorem dJ5_init_a7421_56 : decode cJ5_init_a7421 56 = .ok (.aload_n 0, 1) := by decide +kernel
theorem dJ5_init_a7421_57 : decode cJ5_init_a7421 57 = .ok (.aload_n 1, 1) := by decide +kernel
theorem dJ5_init_a7421_58 : decode cJ5_init_a7421 58 = .ok (.invokevirtual 43, 3) := by decide +kernel
theorem dJ5_init_a7421_61 : decode cJ5_init_a7421 61 = .ok (.pop, 1) := by decide +kernel
theorem dJ5_init_a7421_62 : decode cJ5_init_a7421 62 = .ok (.return_, 1) := by decide +kernel
theorem dJ5_length_8abf5_0 : decode cJ5_length_8abf5 0 = .ok (.aload_n 0, 1) := by decide +kernel
theorem dJ5_length_8abf5_1 : decode cJ5_length_8abf5 1 = .ok (.getfield 79, 3) := by decide +kernel
theorem dJ5_length_8abf5_4 : decode cJ5_length_8abf5 4 = .ok (.ireturn, 1) := by decide +kernel
theorem dJ5_ensureCapacityInternal_d00df_0 : decode cJ5_ensureCapacityInternal_d00df 0 = .ok (.aload_n 0, 1) := by decide +kernel
theorem dJ5_ensureCapacityInternal_d00df_1 : decode cJ5_ensureCapacityInternal_d00df 1 = .ok (.getfield 15, 3) := by decide +kernel
theorem dJ5_ensureCapacityInternal_d00df_4 : decode cJ5_ensureCapacityInternal_d00df 4 = .ok (.arraylength, 1) := by decide +kernel
theorem dJ5_ensureCapacityInternal_d00df_5 : decode cJ5_ensureCapacityInternal_d00df 5 = .ok (.aload_n 0, 1) := by decide +kernel
theorem dJ5_ensureCapacityInternal_d00df_6 : decode cJ5_ensureCapacityInternal_d00df 6 = .ok (.getfield 22, 3) := by decide +kernel
theorem dJ5_ensureCapacityInternal_d00df_9 : decode cJ5_ensureCapacityInternal_d00df 9 = .ok (.ishr, 1) := by decide +kernel
theorem dJ5_ensureCapacityInternal_d00df_10 : decode cJ5_ensureCapacityInternal_d00df 10 = .ok (.istore_n 2, 1) := by decide +kernel
theorem dJ5_ensureCapacityInternal_d00df_11 : decode cJ5_ensureCapacityInternal_d00df 11 = .ok (.iload_n 1, 1) := by decide +kernel
theorem dJ5_ensureCapacityInternal_d00df_12 : decode cJ5_ensureCapacityInternal_d00df 12 = .ok (.iload_n 2, 1) := by decide +kernel
theorem dJ5_ensureCapacityInternal_d00df_13 : decode cJ5_ensureCapacityInternal_d00df 13 = .ok (.isub, 1) := by decide +kernel
theorem dJ5_ensureCapacityInternal_d00df_14 : decode cJ5_ensureCapacityInternal_d00df 14 = .ok (.ifCond .le 24, 3) := by decide +kernel
theorem dJ5_ensureCapacityInternal_d00df_17 : decode cJ5_ensureCapacityInternal_d00df 17 = .ok (.aload_n 0, 1) := by decide +kernel
theorem dJ5_ensureCapacityInternal_d00df_18 : decode cJ5_ensureCapacityInternal_d00df 18 = .ok (.aload_n 0, 1) := by decide +kernel
theorem dJ5_ensureCapacityInternal_d00df_19 : decode cJ5_ensureCapacityInternal_d00df 19 = .ok (.getfield 15, 3) := by decide +kernel
theorem dJ5_ensureCapacityInternal_d00df_22 : decode cJ5_ensureCapacityInternal_d00df 22 = .ok (.aload_n 0, 1) := by decide +kernel
theorem dJ5_ensureCapacityInternal_d00df_23 : decode cJ5_ensureCapacityInternal_d00df 23 = .ok (.iload_n 1, 1) := by decide +kernel
theorem dJ5_ensureCapacityInternal_d00df_24 : decode cJ5_ensureCapacityInternal_d00df 24 = .ok (.invokevirtual 104, 3) := by decide +kernel
theorem dJ5_ensureCapacityInternal_d00df_27 : decode cJ5_ensureCapacityInternal_d00df 27 = .ok (.aload_n 0, 1) := by decide +kernel
theorem dJ5_ensureCapacityInternal_d00df_28 : decode cJ5_ensureCapacityInternal_d00df 28 = .ok (.getfield 22, 3) := by decide +kernel
theorem dJ5_ensureCapacityInternal_d00df_31 : decode cJ5_ensureCapacityInternal_d00df 31 = .ok (.ishl, 1) := by decide +kernel
theorem dJ5_ensureCapacityInternal_d00df_32 : decode cJ5_ensureCapacityInternal_d00df 32 = .ok (.invokestatic 108, 3) := by decide +kernel
theorem dJ5_ensureCapacityInternal_d00df_35 : decode cJ5_ensureCapacityInternal_d00df 35 = .ok (.putfield 15, 3) := by decide +kernel
theorem dJ5_ensureCapacityInternal_d00df_38 : decode cJ5_ensureCapacityInternal_d00df 38 = .ok (.return_, 1) := by decide +kernel
theorem dJ5_newCapacity_0f7a4_0 : decode cJ5_newCapacity_0f7a4 0 = .ok (.aload_n 0, 1) := by decide +kernel
theorem dJ5_newCapacity_0f7a4_1 : decode cJ5_newCapacity_0f7a4 1 = .ok (.getfield 15, 3) := by decide +kernel
theorem dJ5_newCapacity_0f7a4_4 : decode cJ5_newCapacity_0f7a4 4 = .ok (.arraylength, 1) := by decide +kernel
theorem dJ5_newCapacity_0f7a4_5 : decode cJ5_newCapacity_0f7a4 5 = .ok (.istore_n 2, 1) := by decide +kernel
theorem dJ5_newCapacity_0f7a4_6 : decode cJ5_newCapacity_0f7a4 6 = .ok (.iload_n 1, 1) := by decide +kernel
theorem dJ5_newCapacity_0f7a4_7 : decode cJ5_newCapacity_0f7a4 7 = .ok (.aload_n 0, 1) := by decide +kernel
theorem dJ5_newCapacity_0f7a4_8 : decode cJ5_newCapacity_0f7a4 8 = .ok (.getfield 22, 3) := by decide +kernel
theorem dJ5_newCapacity_0f7a4_11 : decode cJ5_newCapacity_0f7a4 11 = .ok (.ishl, 1) := by decide +kernel
theorem dJ5_newCapacity_0f7a4_12 : decode cJ5_newCapacity_0f7a4 12 = .ok (.istore_n 3, 1) := by decide +kernel
theorem dJ5_newCapacity_0f7a4_13 : decode cJ5_newCapacity_0f7a4 13 = .ok (.iload_n 3, 1) := by decide +kernel
theorem dJ5_newCapacity_0f7a4_14 : decode cJ5_newCapacity_0f7a4 14 = .ok (.iload_n 2, 1) := by decide +kernel
theorem dJ5_newCapacity_0f7a4_15 : decode cJ5_newCapacity_0f7a4 15 = .ok (.isub, 1) := by decide +kernel
theorem dJ5_newCapacity_0f7a4_16 : decode cJ5_newCapacity_0f7a4 16 = .ok (.istore 4, 2) := by decide +kernel
theorem dJ5_newCapacity_0f7a4_18 : decode cJ5_newCapacity_0f7a4 18 = .ok (.iload_n 2, 1) := by decide +kernel
theorem dJ5_newCapacity_0f7a4_19 : decode cJ5_newCapacity_0f7a4 19 = .ok (.iload 4, 2) := by decide +kernel
theorem dJ5_newCapacity_0f7a4_21 : decode cJ5_newCapacity_0f7a4 21 = .ok (.iload_n 2, 1) := by decide +kernel
theorem dJ5_newCapacity_0f7a4_22 : decode cJ5_newCapacity_0f7a4 22 = .ok (.iconst 2, 1) := by decide +kernel
theorem dJ5_newCapacity_0f7a4_23 : decode cJ5_newCapacity_0f7a4 23 = .ok (.aload_n 0, 1) := by decide +kernel
theorem dJ5_newCapacity_0f7a4_24 : decode cJ5_newCapacity_0f7a4 24 = .ok (.getfield 22, 3) := by decide +kernel
theorem dJ5_newCapacity_0f7a4_27 : decode cJ5_newCapacity_0f7a4 27 = .ok (.ishl, 1) := by decide +kernel
theorem dJ5_newCapacity_0f7a4_28 : decode cJ5_newCapacity_0f7a4 28 = .ok (.iadd, 1) := by decide +kernel
theorem dJ5_newCapacity_0f7a4_29 : decode cJ5_newCapacity_0f7a4 29 = .ok (.invokestatic 114, 3) := by decide +kernel
theorem dJ5_newCapacity_0f7a4_32 : decode cJ5_newCapacity_0f7a4 32 = .ok (.istore 5, 2) := by decide +kernel
theorem dJ5_newCapacity_0f7a4_34 : decode cJ5_newCapacity_0f7a4 34 = .ok (.iload 5, 2) := by decide +kernel
theorem dJ5_newCapacity_0f7a4_36 : decode cJ5_newCapacity_0f7a4 36 = .ok (.ldc 39, 2) := by decide +kernel
theorem dJ5_newCapacity_0f7a4_38 : decode cJ5_newCapacity_0f7a4 38 = .ok (.if_icmp .ne 13, 3) := by decide +kernel
theorem dJ5_newCapacity_0f7a4_41 : decode cJ5_newCapacity_0f7a4 41 = .ok (.new 120, 3) := by decide +kernel
theorem dJ5_newCapacity_0f7a4_44 : decode cJ5_newCapacity_0f7a4 44 = .ok (.dup, 1) := by decide +kernel
theorem dJ5_newCapacity_0f7a4_45 : decode cJ5_newCapacity_0f7a4 45 = .ok (.ldc 122, 2) := by decide +kernel
theorem dJ5_newCapacity_0f7a4_47 : decode cJ5_newCapacity_0f7a4 47 = .ok (.invokespecial 124, 3) := by decide +kernel
theorem dJ5_newCapacity_0f7a4_50 : decode cJ5_newCapacity_0f7a4 50 = .ok (.athrow, 1) := by decide +kernel
theorem dJ5_newCapacity_0f7a4_51 : decode cJ5_newCapacity_0f7a4 51 = .ok (.iload 5, 2) := by decide +kernel
theorem dJ5_newCapacity_0f7a4_53 : decode cJ5_newCapacity_0f7a4 53 = .ok (.aload_n 0, 1) := by decide +kernel
theorem dJ5_newCapacity_0f7a4_54 : decode cJ5_newCapacity_0f7a4 54 = .ok (.getfield 22, 3) := by decide +kernel
theorem dJ5_newCapacity_0f7a4_57 : decode cJ5_newCapacity_0f7a4 57 = .ok (.ishr, 1) := by decide +kernel
theorem dJ5_newCapacity_0f7a4_58 : decode cJ5_newCapacity_0f7a4 58 = .ok (.ireturn, 1) := by decide +kernel
theorem dJ5_inflate_da8c8_0 : decode cJ5_inflate_da8c8 0 = .ok (.aload_n 0, 1) := by decide +kernel
theorem dJ5_inflate_da8c8_1 : decode cJ5_inflate_da8c8 1 = .ok (.invokevirtual 83, 3) := by decide +kernel
theorem dJ5_inflate_da8c8_4 : decode cJ5_inflate_da8c8 4 = .ok (.ifCond .ne 4, 3) := by decide +kernel
theorem dJ5_inflate_da8c8_7 : decode cJ5_inflate_da8c8 7 = .ok (.return_, 1) := by decide +kernel
theorem dJ5_inflate_da8c8_8 : decode cJ5_inflate_da8c8 8 = .ok (.aload_n 0, 1) := by decide +kernel
theorem dJ5_inflate_da8c8_9 : decode cJ5_inflate_da8c8 9 = .ok (.getfield 15, 3) := by decide +kernel
theorem dJ5_inflate_da8c8_12 : decode cJ5_inflate_da8c8 12 = .ok (.arraylength, 1) := by decide +kernel
theorem dJ5_inflate_da8c8_13 : decode cJ5_inflate_da8c8 13 = .ok (.invokestatic 26, 3) := by decide +kernel
theorem dJ5_inflate_da8c8_16 : decode cJ5_inflate_da8c8 16 = .ok (.astore_n 1, 1) := by decide +kernel
theorem dJ5_inflate_da8c8_17 : decode cJ5_inflate_da8c8 17 = .ok (.aload_n 0, 1) := by decide +kernel
theorem dJ5_inflate_da8c8_18 : decode cJ5_inflate_da8c8 18 = .ok (.getfield 15, 3) := by decide +kernel
theorem dJ5_inflate_da8c8_21 : decode cJ5_inflate_da8c8 21 = .ok (.iconst 0, 1) := by decide +kernel
theorem dJ5_inflate_da8c8_22 : decode cJ5_inflate_da8c8 22 = .ok (.aload_n 1, 1) := by decide +kernel
theorem dJ5_inflate_da8c8_23 : decode cJ5_inflate_da8c8 23 = .ok (.iconst 0, 1) := by decide +kernel
theorem dJ5_inflate_da8c8_24 : decode cJ5_inflate_da8c8 24 = .ok (.aload_n 0, 1) := by decide +kernel
theorem dJ5_inflate_da8c8_25 : decode cJ5_inflate_da8c8 25 = .ok (.getfield 79, 3) := by decide +kernel
theorem dJ5_inflate_da8c8_28 : decode cJ5_inflate_da8c8 28 = .ok (.invokestatic 125, 3) := by decide +kernel
theorem dJ5_inflate_da8c8_31 : decode cJ5_inflate_da8c8 31 = .ok (.aload_n 0, 1) := by decide +kernel
theorem dJ5_inflate_da8c8_32 : decode cJ5_inflate_da8c8 32 = .ok (.aload_n 1, 1) := by decide +kernel
theorem dJ5_inflate_da8c8_33 : decode cJ5_inflate_da8c8 33 = .ok (.putfield 15, 3) := by decide +kernel
theorem dJ5_inflate_da8c8_36 : decode cJ5_inflate_da8c8 36 = .ok (.aload_n 0, 1) := by decide +kernel
theorem dJ5_inflate_da8c8_37 : decode cJ5_inflate_da8c8 37 = .ok (.iconst 1, 1) := by decide +kernel
theorem dJ5_inflate_da8c8_38 : decode cJ5_inflate_da8c8 38 = .ok (.putfield 22, 3) := by decide +kernel
theorem dJ5_inflate_da8c8_41 : decode cJ5_inflate_da8c8 41 = .ok (.return_, 1) := by decide +kernel
theorem dJ5_append_cf1ce_0 : decode cJ5_append_cf1ce 0 = .ok (.aload_n 1, 1) := by decide +kernel
theorem dJ5_append_cf1ce_1 : decode cJ5_append_cf1ce 1 = .ok (.ifnonnull 8, 3) := by decide +kernel
theorem dJ5_append_cf1ce_4 : decode cJ5_append_cf1ce 4 = .ok (.aload_n 0, 1) := by decide +kernel
theorem dJ5_append_cf1ce_5 : decode cJ5_append_cf1ce 5 = .ok (.invokevirtual 204, 3) := by decide +kernel
theorem dJ5_append_cf1ce_8 : decode cJ5_append_cf1ce 8 = .ok (.areturn, 1) := by decide +kernel
theorem dJ5_append_cf1ce_9 : decode cJ5_append_cf1ce 9 = .ok (.aload_n 1, 1) := by decide +kernel
theorem dJ5_append_cf1ce_10 : decode cJ5_append_cf1ce 10 = .ok (.invokevirtual 32, 3) := by decide +kernel
theorem dJ5_append_cf1ce_13 : decode cJ5_append_cf1ce 13 = .ok (.istore_n 2, 1) := by decide +kernel
theorem dJ5_append_cf1ce_14 : decode cJ5_append_cf1ce 14 = .ok (.aload_n 0, 1) := by decide +kernel
theorem dJ5_append_cf1ce_15 : decode cJ5_append_cf1ce 15 = .ok (.aload_n 0, 1) := by decide +kernel
theorem dJ5_append_cf1ce_16 : decode cJ5_append_cf1ce 16 = .ok (.getfield 79, 3) := by decide +kernel
theorem dJ5_append_cf1ce_19 : decode cJ5_append_cf1ce 19 = .ok (.iload_n 2, 1) := by decide +kernel
theorem dJ5_append_cf1ce_20 : decode cJ5_append_cf1ce 20 = .ok (.iadd, 1) := by decide +kernel
theorem dJ5_append_cf1ce_21 : decode cJ5_append_cf1ce 21 = .ok (.invokevirtual 100, 3) := by decide +kernel
theorem dJ5_append_cf1ce_24 : decode cJ5_append_cf1ce 24 = .ok (.aload_n 0, 1) := by decide +kernel
theorem dJ5_append_cf1ce_25 : decode cJ5_append_cf1ce 25 = .ok (.aload_n 0, 1) := by decide +kernel
theorem dJ5_append_cf1ce_26 : decode cJ5_append_cf1ce 26 = .ok (.getfield 79, 3) := by decide +kernel
theorem dJ5_append_cf1ce_29 : decode cJ5_append_cf1ce 29 = .ok (.aload_n 1, 1) := by decide +kernel
theorem dJ5_append_cf1ce_30 : decode cJ5_append_cf1ce 30 = .ok (.invokevirtual 208, 3) := by decide +kernel
theorem dJ5_append_cf1ce_33 : decode cJ5_append_cf1ce 33 = .ok (.aload_n 0, 1) := by decide +kernel
theorem dJ5_append_cf1ce_34 : decode cJ5_append_cf1ce 34 = .ok (.dup, 1) := by decide +kernel
theorem dJ5_append_cf1ce_35 : decode cJ5_append_cf1ce 35 = .ok (.getfield 79, 3) := by decide +kernel
theorem dJ5_append_cf1ce_38 : decode cJ5_append_cf1ce 38 = .ok (.iload_n 2, 1) := by decide +kernel
theorem dJ5_append_cf1ce_39 : decode cJ5_append_cf1ce 39 = .ok (.iadd, 1) := by decide +kernel
theorem dJ5_append_cf1ce_40 : decode cJ5_append_cf1ce 40 = .ok (.putfield 79, 3) := by decide +kernel
theorem dJ5_append_cf1ce_43 : decode cJ5_append_cf1ce 43 = .ok (.aload_n 0, 1) := by decide +kernel
theorem dJ5_append_cf1ce_44 : decode cJ5_append_cf1ce 44 = .ok (.areturn, 1) := by decide +kernel
theorem dJ5_appendNull_278bc_0 : decode cJ5_appendNull_278bc 0 = .ok (.aload_n 0, 1) := by decide +kernel
theorem dJ5_appendNull_278bc_1 : decode cJ5_appendNull_278bc 1 = .ok (.aload_n 0, 1) := by decide +kernel
theorem dJ5_appendNull_278bc_2 : decode cJ5_appendNull_278bc 2 = .ok (.getfield 79, 3) := by decide +kernel
theorem dJ5_appendNull_278bc_5 : decode cJ5_appendNull_278bc 5 = .ok (.iconst 4, 1) := by decide +kernel
theorem dJ5_appendNull_278bc_6 : decode cJ5_appendNull_278bc 6 = .ok (.iadd, 1) := by decide +kernel
theorem dJ5_appendNull_278bc_7 : decode cJ5_appendNull_278bc 7 = .ok (.invokevirtual 100, 3) := by decide +kernel
theorem dJ5_appendNull_278bc_10 : decode cJ5_appendNull_278bc 10 = .ok (.aload_n 0, 1) := by decide +kernel
theorem dJ5_appendNull_278bc_11 : decode cJ5_appendNull_278bc 11 = .ok (.getfield 79, 3) := by decide +kernel
theorem dJ5_appendNull_278bc_14 : decode cJ5_appendNull_278bc 14 = .ok (.istore_n 1, 1) := by decide +kernel
theorem dJ5_appendNull_278bc_15 : decode cJ5_appendNull_278bc 15 = .ok (.aload_n 0, 1) := by decide +kernel
theorem dJ5_appendNull_278bc_16 : decode cJ5_appendNull_278bc 16 = .ok (.getfield 15, 3) := by decide +kernel
theorem dJ5_appendNull_278bc_19 : decode cJ5_appendNull_278bc 19 = .ok (.astore_n 2, 1) := by decide +kernel
theorem dJ5_appendNull_278bc_20 : decode cJ5_appendNull_278bc 20 = .ok (.aload_n 0, 1) := by decide +kernel
theorem dJ5_appendNull_278bc_21 : decode cJ5_appendNull_278bc 21 = .ok (.invokevirtual 83, 3) := by decide +kernel
theorem dJ5_appendNull_278bc_24 : decode cJ5_appendNull_278bc 24 = .ok (.ifCond .eq 38, 3) := by decide +kernel
theorem dJ5_appendNull_278bc_27 : decode cJ5_appendNull_278bc 27 = .ok (.aload_n 2, 1) := by decide +kernel
theorem dJ5_appendNull_278bc_28 : decode cJ5_appendNull_278bc 28 = .ok (.iload_n 1, 1) := by decide +kernel
theorem dJ5_appendNull_278bc_29 : decode cJ5_appendNull_278bc 29 = .ok (.iinc 1 1, 3) := by decide +kernel
theorem dJ5_appendNull_278bc_32 : decode cJ5_appendNull_278bc 32 = .ok (.bipush 110, 2) := by decide +kernel
theorem dJ5_appendNull_278bc_34 : decode cJ5_appendNull_278bc 34 = .ok (.bastore, 1) := by decide +kernel
theorem dJ5_appendNull_278bc_35 : decode cJ5_appendNull_278bc 35 = .ok (.aload_n 2, 1) := by decide +kernel
theorem dJ5_appendNull_278bc_36 : decode cJ5_appendNull_278bc 36 = .ok (.iload_n 1, 1) := by decide +kernel
theorem dJ5_appendNull_278bc_37 : decode cJ5_appendNull_278bc 37 = .ok (.iinc 1 1, 3) := by decide +kernel
theorem dJ5_appendNull_278bc_40 : decode cJ5_appendNull_278bc 40 = .ok (.bipush 117, 2) := by decide +kernel
theorem dJ5_appendNull_278bc_42 : decode cJ5_appendNull_278bc 42 = .ok (.bastore, 1) := by decide +kernel
theorem dJ5_appendNull_278bc_43 : decode cJ5_appendNull_278bc 43 = .ok (.aload_n 2, 1) := by decide +kernel
theorem dJ5_appendNull_278bc_44 : decode cJ5_appendNull_278bc 44 = .ok (.iload_n 1, 1) := by decide +kernel
theorem dJ5_appendNull_278bc_45 : decode cJ5_appendNull_278bc 45 = .ok (.iinc 1 1, 3) := by decide +kernel
theorem dJ5_appendNull_278bc_48 : decode cJ5_appendNull_278bc 48 = .ok (.bipush 108, 2) := by decide +kernel
theorem dJ5_appendNull_278bc_50 : decode cJ5_appendNull_278bc 50 = .ok (.bastore, 1) := by decide +kernel
theorem dJ5_appendNull_278bc_51 : decode cJ5_appendNull_278bc 51 = .ok (.aload_n 2, 1) := by decide +kernel
theorem dJ5_appendNull_278bc_52 : decode cJ5_appendNull_278bc 52 = .ok (.iload_n 1, 1) := by decide +kernel
theorem dJ5_appendNull_278bc_53 : decode cJ5_appendNull_278bc 53 = .ok (.iinc 1 1, 3) := by decide +kernel
theorem dJ5_appendNull_278bc_56 : decode cJ5_appendNull_278bc 56 = .ok (.bipush 108, 2) := by decide +kernel
theorem dJ5_appendNull_278bc_58 : decode cJ5_appendNull_278bc 58 = .ok (.bastore, 1) := by decide +kernel
theorem dJ5_appendNull_278bc_59 : decode cJ5_appendNull_278bc 59 = .ok (.goto 17, 3) := by decide +kernel
theorem dJ5_appendNull_278bc_62 : decode cJ5_appendNull_278bc 62 = .ok (.aload_n 2, 1) := by decide +kernel
theorem dJ5_appendNull_278bc_63 : decode cJ5_appendNull_278bc 63 = .ok (.iload_n 1, 1) := by decide +kernel
theorem dJ5_appendNull_278bc_64 : decode cJ5_appendNull_278bc 64 = .ok (.bipush 110, 2) := by decide +kernel
theorem dJ5_appendNull_278bc_66 : decode cJ5_appendNull_278bc 66 = .ok (.bipush 117, 2) := by decide +kernel
theorem dJ5_appendNull_278bc_68 : decode cJ5_appendNull_278bc 68 = .ok (.bipush 108, 2) := by decide +kernel
theorem dJ5_appendNull_278bc_70 : decode cJ5_appendNull_278bc 70 = .ok (.bipush 108, 2) := by decide +kernel
theorem dJ5_appendNull_278bc_72 : decode cJ5_appendNull_278bc 72 = .ok (.invokestatic 226, 3) := by decide +kernel
theorem dJ5_appendNull_278bc_75 : decode cJ5_appendNull_278bc 75 = .ok (.istore_n 1, 1) := by decide +kernel
theorem dJ5_appendNull_278bc_76 : decode cJ5_appendNull_278bc 76 = .ok (.aload_n 0, 1) := by decide +kernel
theorem dJ5_appendNull_278bc_77 : decode cJ5_appendNull_278bc 77 = .ok (.iload_n 1, 1) := by decide +kernel
theorem dJ5_appendNull_278bc_78 : decode cJ5_appendNull_278bc 78 = .ok (.putfield 79, 3) := by decide +kernel
theorem dJ5_appendNull_278bc_81 : decode cJ5_appendNull_278bc 81 = .ok (.aload_n 0, 1) := by decide +kernel
theorem dJ5_appendNull_278bc_82 : decode cJ5_appendNull_278bc 82 = .ok (.areturn, 1) := by decide +kernel
theorem dJ5_append_3fe6f_0 : decode cJ5_append_3fe6f 0 = .ok (.aload_n 0, 1) := by decide +kernel
theorem dJ5_append_3fe6f_1 : decode cJ5_append_3fe6f 1 = .ok (.aload_n 0, 1) := by decide +kernel
theorem dJ5_append_3fe6f_2 : decode cJ5_append_3fe6f 2 = .ok (.getfield 79, 3) := by decide +kernel
theorem dJ5_append_3fe6f_5 : decode cJ5_append_3fe6f 5 = .ok (.iconst 1, 1) := by decide +kernel
theorem dJ5_append_3fe6f_6 : decode cJ5_append_3fe6f 6 = .ok (.iadd, 1) := by decide +kernel
theorem dJ5_append_3fe6f_7 : decode cJ5_append_3fe6f 7 = .ok (.invokevirtual 100, 3) := by decide +kernel
theorem dJ5_append_3fe6f_10 : decode cJ5_append_3fe6f 10 = .ok (.aload_n 0, 1) := by decide +kernel
theorem dJ5_append_3fe6f_11 : decode cJ5_append_3fe6f 11 = .ok (.invokevirtual 83, 3) := by decide +kernel
theorem dJ5_append_3fe6f_14 : decode cJ5_append_3fe6f 14 = .ok (.ifCond .eq 31, 3) := by decide +kernel
theorem dJ5_append_3fe6f_17 : decode cJ5_append_3fe6f 17 = .ok (.iload_n 1, 1) := by decide +kernel
theorem dJ5_append_3fe6f_18 : decode cJ5_append_3fe6f 18 = .ok (.invokestatic 191, 3) := by decide +kernel
theorem dJ5_append_3fe6f_21 : decode cJ5_append_3fe6f 21 = .ok (.ifCond .eq 24, 3) := by decide +kernel
theorem dJ5_append_3fe6f_24 : decode cJ5_append_3fe6f 24 = .ok (.aload_n 0, 1) := by decide +kernel
theorem dJ5_append_3fe6f_25 : decode cJ5_append_3fe6f 25 = .ok (.getfield 15, 3) := by decide +kernel
theorem dJ5_append_3fe6f_28 : decode cJ5_append_3fe6f 28 = .ok (.aload_n 0, 1) := by decide +kernel
theorem dJ5_append_3fe6f_29 : decode cJ5_append_3fe6f 29 = .ok (.dup, 1) := by decide +kernel
theorem dJ5_append_3fe6f_30 : decode cJ5_append_3fe6f 30 = .ok (.getfield 79, 3) := by decide +kernel
theorem dJ5_append_3fe6f_33 : decode cJ5_append_3fe6f 33 = .ok (.dup_x1, 1) := by decide +kernel
theorem dJ5_append_3fe6f_34 : decode cJ5_append_3fe6f 34 = .ok (.iconst 1, 1) := by decide +kernel
theorem dJ5_append_3fe6f_35 : decode cJ5_append_3fe6f 35 = .ok (.iadd, 1) := by decide +kernel
theorem dJ5_append_3fe6f_36 : decode cJ5_append_3fe6f 36 = .ok (.putfield 79, 3) := by decide +kernel
theorem dJ5_append_3fe6f_39 : decode cJ5_append_3fe6f 39 = .ok (.iload_n 1, 1) := by decide +kernel
theorem dJ5_append_3fe6f_40 : decode cJ5_append_3fe6f 40 = .ok (.i2b, 1) := by decide +kernel
theorem dJ5_append_3fe6f_41 : decode cJ5_append_3fe6f 41 = .ok (.bastore, 1) := by decide +kernel
theorem dJ5_append_3fe6f_42 : decode cJ5_append_3fe6f 42 = .ok (.goto 33, 3) := by decide +kernel
theorem dJ5_append_3fe6f_45 : decode cJ5_append_3fe6f 45 = .ok (.aload_n 0, 1) := by decide +kernel
theorem dJ5_append_3fe6f_46 : decode cJ5_append_3fe6f 46 = .ok (.invokevirtual 83, 3) := by decide +kernel
theorem dJ5_append_3fe6f_49 : decode cJ5_append_3fe6f 49 = .ok (.ifCond .eq 7, 3) := by decide +kernel
theorem dJ5_append_3fe6f_52 : decode cJ5_append_3fe6f 52 = .ok (.aload_n 0, 1) := by decide +kernel
theorem dJ5_append_3fe6f_53 : decode cJ5_append_3fe6f 53 = .ok (.invokevirtual 195, 3) := by decide +kernel
theorem dJ5_append_3fe6f_56 : decode cJ5_append_3fe6f 56 = .ok (.aload_n 0, 1) := by decide +kernel
theorem dJ5_append_3fe6f_57 : decode cJ5_append_3fe6f 57 = .ok (.getfield 15, 3) := by decide +kernel
theorem dJ5_append_3fe6f_60 : decode cJ5_append_3fe6f 60 = .ok (.aload_n 0, 1) := by decide +kernel
theorem dJ5_append_3fe6f_61 : decode cJ5_append_3fe6f 61 = .ok (.dup, 1) := by decide +kernel
theorem dJ5_append_3fe6f_62 : decode cJ5_append_3fe6f 62 = .ok (.getfield 79, 3) := by decide +kernel
theorem dJ5_append_3fe6f_65 : decode cJ5_append_3fe6f 65 = .ok (.dup_x1, 1) := by decide +kernel
theorem dJ5_append_3fe6f_66 : decode cJ5_append_3fe6f 66 = .ok (.iconst 1, 1) := by decide +kernel
theorem dJ5_append_3fe6f_67 : decode cJ5_append_3fe6f 67 = .ok (.iadd, 1) := by decide +kernel
theorem dJ5_append_3fe6f_68 : decode cJ5_append_3fe6f 68 = .ok (.putfield 79, 3) := by decide +kernel
theorem dJ5_append_3fe6f_71 : decode cJ5_append_3fe6f 71 = .ok (.iload_n 1, 1) := by decide +kernel
theorem dJ5_append_3fe6f_72 : decode cJ5_append_3fe6f 72 = .ok (.invokestatic 197, 3) := by decide +kernel
theorem dJ5_append_3fe6f_75 : decode cJ5_append_3fe6f 75 = .ok (.aload_n 0, 1) := by decide +kernel
theorem dJ5_append_3fe6f_76 : decode cJ5_append_3fe6f 76 = .ok (.areturn, 1) := by decide +kernel
theorem dJ5_append_c97b9_0 : decode cJ5_append_c97b9 0 = .ok (.aload_n 0, 1) := by decide +kernel
theorem dJ5_append_c97b9_1 : decode cJ5_append_c97b9 1 = .ok (.getfield 79, 3) := by decide +kernel
theorem dJ5_append_c97b9_4 : decode cJ5_append_c97b9 4 = .ok (.istore_n 2, 1) := by decide +kernel
theorem dJ5_append_c97b9_5 : decode cJ5_append_c97b9 5 = .ok (.iload_n 2, 1) := by decide +kernel
theorem dJ5_append_c97b9_6 : decode cJ5_append_c97b9 6 = .ok (.iload_n 1, 1) := by decide +kernel
theorem dJ5_append_c97b9_7 : decode cJ5_append_c97b9 7 = .ok (.invokestatic 245, 3) := by decide +kernel
theorem dJ5_append_c97b9_10 : decode cJ5_append_c97b9 10 = .ok (.iadd, 1) := by decide +kernel
theorem dJ5_append_c97b9_11 : decode cJ5_append_c97b9 11 = .ok (.istore_n 3, 1) := by decide +kernel
theorem dJ5_append_c97b9_12 : decode cJ5_append_c97b9 12 = .ok (.aload_n 0, 1) := by decide +kernel
theorem dJ5_append_c97b9_13 : decode cJ5_append_c97b9 13 = .ok (.iload_n 3, 1) := by decide +kernel
theorem dJ5_append_c97b9_14 : decode cJ5_append_c97b9 14 = .ok (.invokevirtual 100, 3) := by decide +kernel
theorem dJ5_append_c97b9_17 : decode cJ5_append_c97b9 17 = .ok (.aload_n 0, 1) := by decide +kernel
theorem dJ5_append_c97b9_18 : decode cJ5_append_c97b9 18 = .ok (.invokevirtual 83, 3) := by decide +kernel
theorem dJ5_append_c97b9_21 : decode cJ5_append_c97b9 21 = .ok (.ifCond .eq 16, 3) := by decide +kernel
theorem dJ5_append_c97b9_24 : decode cJ5_append_c97b9 24 = .ok (.iload_n 1, 1) := by decide +kernel
theorem dJ5_append_c97b9_25 : decode cJ5_append_c97b9 25 = .ok (.iload_n 3, 1) := by decide +kernel
theorem dJ5_append_c97b9_26 : decode cJ5_append_c97b9 26 = .ok (.aload_n 0, 1) := by decide +kernel
theorem dJ5_append_c97b9_27 : decode cJ5_append_c97b9 27 = .ok (.getfield 15, 3) := by decide +kernel
theorem dJ5_append_c97b9_30 : decode cJ5_append_c97b9 30 = .ok (.invokestatic 248, 3) := by decide +kernel
theorem dJ5_append_c97b9_33 : decode cJ5_append_c97b9 33 = .ok (.pop, 1) := by decide +kernel
theorem dJ5_append_c97b9_34 : decode cJ5_append_c97b9 34 = .ok (.goto 14, 3) := by decide +kernel
theorem dJ5_append_c97b9_37 : decode cJ5_append_c97b9 37 = .ok (.iload_n 1, 1) := by decide +kernel
theorem dJ5_append_c97b9_38 : decode cJ5_append_c97b9 38 = .ok (.iload_n 2, 1) := by decide +kernel
theorem dJ5_append_c97b9_39 : decode cJ5_append_c97b9 39 = .ok (.iload_n 3, 1) := by decide +kernel
theorem dJ5_append_c97b9_40 : decode cJ5_append_c97b9 40 = .ok (.aload_n 0, 1) := by decide +kernel
theorem dJ5_append_c97b9_41 : decode cJ5_append_c97b9 41 = .ok (.getfield 15, 3) := by decide +kernel
theorem dJ5_append_c97b9_44 : decode cJ5_append_c97b9 44 = .ok (.invokestatic 251, 3) := by decide +kernel
theorem dJ5_append_c97b9_47 : decode cJ5_append_c97b9 47 = .ok (.pop, 1) := by decide +kernel
theorem dJ5_append_c97b9_48 : decode cJ5_append_c97b9 48 = .ok (.aload_n 0, 1) := by decide +kernel
theorem dJ5_append_c97b9_49 : decode cJ5_append_c97b9 49 = .ok (.iload_n 3, 1) := by decide +kernel
theorem dJ5_append_c97b9_50 : decode cJ5_append_c97b9 50 = .ok (.putfield 79, 3) := by decide +kernel
theorem dJ5_append_c97b9_53 : decode cJ5_append_c97b9 53 = .ok (.aload_n 0, 1) := by decide +kernel
theorem dJ5_append_c97b9_54 : decode cJ5_append_c97b9 54 = .ok (.areturn, 1) := by decide +kernel
theorem dJ5_getValue_6d5f1_0 : decode cJ5_getValue_6d5f1 0 = .ok (.aload_n 0, 1) := by decide +kernel
theorem dJ5_getValue_6d5f1_1 : decode cJ5_getValue_6d5f1 1 = .ok (.getfield 15, 3) := by decide +kernel
theorem dJ5_getValue_6d5f1_4 : decode cJ5_getValue_6d5f1 4 = .ok (.areturn, 1) := by decide +kernel
theorem dJ5_isLatin1_aae02_0 : decode cJ5_isLatin1_aae02 0 = .ok (.getstatic 18, 3) := by decide +kernel
theorem dJ5_isLatin1_aae02_3 : decode cJ5_isLatin1_aae02 3 = .ok (.ifCond .eq 14, 3) := by decide +kernel
theorem dJ5_isLatin1_aae02_6 : decode cJ5_isLatin1_aae02 6 = .ok (.aload_n 0, 1) := by decide +kernel
theorem dJ5_isLatin1_aae02_7 : decode cJ5_isLatin1_aae02 7 = .ok (.getfield 22, 3) := by decide +kernel
theorem dJ5_isLatin1_aae02_10 : decode cJ5_isLatin1_aae02 10 = .ok (.ifCond .ne 7, 3) := by decide +kernel
theorem dJ5_isLatin1_aae02_13 : decode cJ5_isLatin1_aae02 13 = .ok (.iconst 1, 1) := by decide +kernel
theorem dJ5_isLatin1_aae02_14 : decode cJ5_isLatin1_aae02 14 = .ok (.goto 4, 3) := by decide +kernel
theorem dJ5_isLatin1_aae02_17 : decode cJ5_isLatin1_aae02 17 = .ok (.iconst 0, 1) := by decide +kernel
theorem dJ5_isLatin1_aae02_18 : decode cJ5_isLatin1_aae02 18 = .ok (.ireturn, 1) := by decide +kernel
theorem dJ5_inflateIfNeededFor_a7421_0 : decode cJ5_inflateIfNeededFor_a7421 0 = .ok (.getstatic 18, 3) := by decide +kernel
theorem dJ5_inflateIfNeededFor_a7421_3 : decode cJ5_inflateIfNeededFor_a7421 3 = .ok (.ifCond .eq 18, 3) := by decide +kernel
theorem dJ5_inflateIfNeededFor_a7421_6 : decode cJ5_inflateIfNeededFor_a7421 6 = .ok (.aload_n 0, 1) := by decide +kernel
theorem dJ5_inflateIfNeededFor_a7421_7 : decode cJ5_inflateIfNeededFor_a7421 7 = .ok (.getfield 22, 3) := by decide +kernel
theorem dJ5_inflateIfNeededFor_a7421_10 : decode cJ5_inflateIfNeededFor_a7421 10 = .ok (.aload_n 1, 1) := by decide +kernel
theorem dJ5_inflateIfNeededFor_a7421_11 : decode cJ5_inflateIfNeededFor_a7421 11 = .ok (.invokevirtual 40, 3) := by decide +kernel
theorem dJ5_inflateIfNeededFor_a7421_14 : decode cJ5_inflateIfNeededFor_a7421 14 = .ok (.if_icmp .eq 7, 3) := by decide +kernel
theorem dJ5_inflateIfNeededFor_a7421_17 : decode cJ5_inflateIfNeededFor_a7421 17 = .ok (.aload_n 0, 1) := by decide +kernel
theorem dJ5_inflateIfNeededFor_a7421_18 : decode cJ5_inflateIfNeededFor_a7421 18 = .ok (.invokevirtual 195, 3) := by decide +kernel
theorem dJ5_inflateIfNeededFor_a7421_21 : decode cJ5_inflateIfNeededFor_a7421 21 = .ok (.return_, 1) := by decide +kernel
theorem dJ5_putStringAt_47b60_0 : decode cJ5_putStringAt_47b60 0 = .ok (.aload_n 0, 1) := by decide +kernel
theorem dJ5_putStringAt_47b60_1 : decode cJ5_putStringAt_47b60 1 = .ok (.aload_n 2, 1) := by decide +kernel
theorem dJ5_putStringAt_47b60_2 : decode cJ5_putStringAt_47b60 2 = .ok (.invokevirtual 397, 3) := by decide +kernel
theorem dJ5_putStringAt_47b60_5 : decode cJ5_putStringAt_47b60 5 = .ok (.aload_n 2, 1) := by decide +kernel
theorem dJ5_putStringAt_47b60_6 : decode cJ5_putStringAt_47b60 6 = .ok (.aload_n 0, 1) := by decide +kernel
theorem dJ5_putStringAt_47b60_7 : decode cJ5_putStringAt_47b60 7 = .ok (.getfield 15, 3) := by decide +kernel
theorem dJ5_putStringAt_47b60_10 : decode cJ5_putStringAt_47b60 10 = .ok (.iload_n 1, 1) := by decide +kernel
theorem dJ5_putStringAt_47b60_11 : decode cJ5_putStringAt_47b60 11 = .ok (.aload_n 0, 1) := by decide +kernel
theorem dJ5_putStringAt_47b60_12 : decode cJ5_putStringAt_47b60 12 = .ok (.getfield 22, 3) := by decide +kernel
theorem dJ5_putStringAt_47b60_15 : decode cJ5_putStringAt_47b60 15 = .ok (.invokevirtual 399, 3) := by decide +kernel
theorem dJ5_putStringAt_47b60_18 : decode cJ5_putStringAt_47b60 18 = .ok (.return_, 1) := by decide +kernel
theorem dJ6_getChars_ba4f3_0 : decode cJ6_getChars_ba4f3 0 = .ok (.iload_n 1, 1) := by decide +kernel
theorem dJ6_getChars_ba4f3_1 : decode cJ6_getChars_ba4f3 1 = .ok (.istore 5, 2) := by decide +kernel
theorem dJ6_getChars_ba4f3_3 : decode cJ6_getChars_ba4f3 3 = .ok (.iload_n 0, 1) := by decide +kernel
theorem dJ6_getChars_ba4f3_4 : decode cJ6_getChars_ba4f3 4 = .ok (.ifCond .ge 7, 3) := by decide +kernel
theorem dJ6_getChars_ba4f3_7 : decode cJ6_getChars_ba4f3 7 = .ok (.iconst 1, 1) := by decide +kernel
theorem dJ6_getChars_ba4f3_8 : decode cJ6_getChars_ba4f3 8 = .ok (.goto 4, 3) := by decide +kernel
theorem dJ6_getChars_ba4f3_11 : decode cJ6_getChars_ba4f3 11 = .ok (.iconst 0, 1) := by decide +kernel
theorem dJ6_getChars_ba4f3_12 : decode cJ6_getChars_ba4f3 12 = .ok (.istore 6, 2) := by decide +kernel
theorem dJ6_getChars_ba4f3_14 : decode cJ6_getChars_ba4f3 14 = .ok (.iload 6, 2) := by decide +kernel
theorem dJ6_getChars_ba4f3_16 : decode cJ6_getChars_ba4f3 16 = .ok (.ifCond .ne 6, 3) := by decide +kernel
theorem dJ6_getChars_ba4f3_19 : decode cJ6_getChars_ba4f3 19 = .ok (.iload_n 0, 1) := by decide +kernel
theorem dJ6_getChars_ba4f3_20 : decode cJ6_getChars_ba4f3 20 = .ok (.ineg, 1) := by decide +kernel
theorem dJ6_getChars_ba4f3_21 : decode cJ6_getChars_ba4f3 21 = .ok (.istore_n 0, 1) := by decide +kernel
theorem dJ6_getChars_ba4f3_22 : decode cJ6_getChars_ba4f3 22 = .ok (.iload_n 0, 1) := by decide +kernel
theorem dJ6_getChars_ba4f3_23 : decode cJ6_getChars_ba4f3 23 = .ok (.bipush (-100), 2) := by decide +kernel
theorem dJ6_getChars_ba4f3_25 : decode cJ6_getChars_ba4f3 25 = .ok (.if_icmp .gt 47, 3) := by decide +kernel
theorem dJ6_getChars_ba4f3_28 : decode cJ6_getChars_ba4f3 28 = .ok (.iload_n 0, 1) := by decide +kernel
theorem dJ6_getChars_ba4f3_29 : decode cJ6_getChars_ba4f3 29 = .ok (.bipush 100, 2) := by decide +kernel
theorem dJ6_getChars_ba4f3_31 : decode cJ6_getChars_ba4f3 31 = .ok (.idiv, 1) := by decide +kernel
theorem dJ6_getChars_ba4f3_32 : decode cJ6_getChars_ba4f3 32 = .ok (.istore_n 3, 1) := by decide +kernel
theorem dJ6_getChars_ba4f3_33 : decode cJ6_getChars_ba4f3 33 = .ok (.iload_n 3, 1) := by decide +kernel
theorem dJ6_getChars_ba4f3_34 : decode cJ6_getChars_ba4f3 34 = .ok (.bipush 100, 2) := by decide +kernel
theorem dJ6_getChars_ba4f3_36 : decode cJ6_getChars_ba4f3 36 = .ok (.imul, 1) := by decide +kernel
theorem dJ6_getChars_ba4f3_37 : decode cJ6_getChars_ba4f3 37 = .ok (.iload_n 0, 1) := by decide +kernel
theorem dJ6_getChars_ba4f3_38 : decode cJ6_getChars_ba4f3 38 = .ok (.isub, 1) := by decide +kernel
theorem dJ6_getChars_ba4f3_39 : decode cJ6_getChars_ba4f3 39 = .ok (.istore 4, 2) := by decide +kernel
theorem dJ6_getChars_ba4f3_41 : decode cJ6_getChars_ba4f3 41 = .ok (.iload_n 3, 1) := by decide +kernel
theorem dJ6_getChars_ba4f3_42 : decode cJ6_getChars_ba4f3 42 = .ok (.istore_n 0, 1) := by decide +kernel
theorem dJ6_getChars_ba4f3_43 : decode cJ6_getChars_ba4f3 43 = .ok (.aload_n 2, 1) := by decide +kernel
theorem dJ6_getChars_ba4f3_44 : decode cJ6_getChars_ba4f3 44 = .ok (.iinc 5 (-1), 3) := by decide +kernel
theorem dJ6_getChars_ba4f3_47 : decode cJ6_getChars_ba4f3 47 = .ok (.iload 5, 2) := by decide +kernel
theorem dJ6_getChars_ba4f3_49 : decode cJ6_getChars_ba4f3 49 = .ok (.getstatic 83, 3) := by decide +kernel
theorem dJ6_getChars_ba4f3_52 : decode cJ6_getChars_ba4f3 52 = .ok (.iload 4, 2) := by decide +kernel
theorem dJ6_getChars_ba4f3_54 : decode cJ6_getChars_ba4f3 54 = .ok (.baload, 1) := by decide +kernel
theorem dJ6_getChars_ba4f3_55 : decode cJ6_getChars_ba4f3 55 = .ok (.bastore, 1) := by decide +kernel
theorem dJ6_getChars_ba4f3_56 : decode cJ6_getChars_ba4f3 56 = .ok (.aload_n 2, 1) := by decide +kernel
theorem dJ6_getChars_ba4f3_57 : decode cJ6_getChars_ba4f3 57 = .ok (.iinc 5 (-1), 3) := by decide +kernel
theorem dJ6_getChars_ba4f3_60 : decode cJ6_getChars_ba4f3 60 = .ok (.iload 5, 2) := by decide +kernel
theorem dJ6_getChars_ba4f3_62 : decode cJ6_getChars_ba4f3 62 = .ok (.getstatic 87, 3) := by decide +kernel
theorem dJ6_getChars_ba4f3_65 : decode cJ6_getChars_ba4f3 65 = .ok (.iload 4, 2) := by decide +kernel
theorem dJ6_getChars_ba4f3_67 : decode cJ6_getChars_ba4f3 67 = .ok (.baload, 1) := by decide +kernel
theorem dJ6_getChars_ba4f3_68 : decode cJ6_getChars_ba4f3 68 = .ok (.bastore, 1) := by decide +kernel
theorem dJ6_getChars_ba4f3_69 : decode cJ6_getChars_ba4f3 69 = .ok (.goto (-47), 3) := by decide +kernel
theorem dJ6_getChars_ba4f3_72 : decode cJ6_getChars_ba4f3 72 = .ok (.aload_n 2, 1) := by decide +kernel
theorem dJ6_getChars_ba4f3_73 : decode cJ6_getChars_ba4f3 73 = .ok (.iinc 5 (-1), 3) := by decide +kernel
theorem dJ6_getChars_ba4f3_76 : decode cJ6_getChars_ba4f3 76 = .ok (.iload 5, 2) := by decide +kernel
theorem dJ6_getChars_ba4f3_78 : decode cJ6_getChars_ba4f3 78 = .ok (.getstatic 83, 3) := by decide +kernel
theorem dJ6_getChars_ba4f3_81 : decode cJ6_getChars_ba4f3 81 = .ok (.iload_n 0, 1) := by decide +kernel
theorem dJ6_getChars_ba4f3_82 : decode cJ6_getChars_ba4f3 82 = .ok (.ineg, 1) := by decide +kernel
theorem dJ6_getChars_ba4f3_83 : decode cJ6_getChars_ba4f3 83 = .ok (.baload, 1) := by decide +kernel
theorem dJ6_getChars_ba4f3_84 : decode cJ6_getChars_ba4f3 84 = .ok (.bastore, 1) := by decide +kernel
theorem dJ6_getChars_ba4f3_85 : decode cJ6_getChars_ba4f3 85 = .ok (.iload_n 0, 1) := by decide +kernel
theorem dJ6_getChars_ba4f3_86 : decode cJ6_getChars_ba4f3 86 = .ok (.bipush (-9), 2) := by decide +kernel
theorem dJ6_getChars_ba4f3_88 : decode cJ6_getChars_ba4f3 88 = .ok (.if_icmp .ge 16, 3) := by decide +kernel
theorem dJ6_getChars_ba4f3_91 : decode cJ6_getChars_ba4f3 91 = .ok (.aload_n 2, 1) := by decide +kernel
theorem dJ6_getChars_ba4f3_92 : decode cJ6_getChars_ba4f3 92 = .ok (.iinc 5 (-1), 3) := by decide +kernel
theorem dJ6_getChars_ba4f3_95 : decode cJ6_getChars_ba4f3 95 = .ok (.iload 5, 2) := by decide +kernel
theorem dJ6_getChars_ba4f3_97 : decode cJ6_getChars_ba4f3 97 = .ok (.getstatic 87, 3) := by decide +kernel
theorem dJ6_getChars_ba4f3_100 : decode cJ6_getChars_ba4f3 100 = .ok (.iload_n 0, 1) := by decide +kernel
theorem dJ6_getChars_ba4f3_101 : decode cJ6_getChars_ba4f3 101 = .ok (.ineg, 1) := by decide +kernel
theorem dJ6_getChars_ba4f3_102 : decode cJ6_getChars_ba4f3 102 = .ok (.baload, 1) := by decide +kernel
theorem dJ6_getChars_ba4f3_103 : decode cJ6_getChars_ba4f3 103 = .ok (.bastore, 1) := by decide +kernel
theorem dJ6_getChars_ba4f3_104 : decode cJ6_getChars_ba4f3 104 = .ok (.iload 6, 2) := by decide +kernel
theorem dJ6_getChars_ba4f3_106 : decode cJ6_getChars_ba4f3 106 = .ok (.ifCond .eq 12, 3) := by decide +kernel
theorem dJ6_getChars_ba4f3_109 : decode cJ6_getChars_ba4f3 109 = .ok (.aload_n 2, 1) := by decide +kernel
theorem dJ6_getChars_ba4f3_110 : decode cJ6_getChars_ba4f3 110 = .ok (.iinc 5 (-1), 3) := by decide +kernel
theorem dJ6_getChars_ba4f3_113 : decode cJ6_getChars_ba4f3 113 = .ok (.iload 5, 2) := by decide +kernel
theorem dJ6_getChars_ba4f3_115 : decode cJ6_getChars_ba4f3 115 = .ok (.bipush 45, 2) := by decide +kernel
theorem dJ6_getChars_ba4f3_117 : decode cJ6_getChars_ba4f3 117 = .ok (.bastore, 1) := by decide +kernel
theorem dJ6_getChars_ba4f3_118 : decode cJ6_getChars_ba4f3 118 = .ok (.iload 5, 2) := by decide +kernel
theorem dJ6_getChars_ba4f3_120 : decode cJ6_getChars_ba4f3 120 = .ok (.ireturn, 1) := by decide +kernel
theorem dJ6_stringSize_0f7a4_0 : decode cJ6_stringSize_0f7a4 0 = .ok (.iconst 1, 1) := by decide +kernel
theorem dJ6_stringSize_0f7a4_1 : decode cJ6_stringSize_0f7a4 1 = .ok (.istore_n 1, 1) := by decide +kernel
theorem dJ6_stringSize_0f7a4_2 : decode cJ6_stringSize_0f7a4 2 = .ok (.iload_n 0, 1) := by decide +kernel
theorem dJ6_stringSize_0f7a4_3 : decode cJ6_stringSize_0f7a4 3 = .ok (.ifCond .lt 8, 3) := by decide +kernel
theorem dJ6_stringSize_0f7a4_6 : decode cJ6_stringSize_0f7a4 6 = .ok (.iconst 0, 1) := by decide +kernel
theorem dJ6_stringSize_0f7a4_7 : decode cJ6_stringSize_0f7a4 7 = .ok (.istore_n 1, 1) := by decide +kernel
theorem dJ6_stringSize_0f7a4_8 : decode cJ6_stringSize_0f7a4 8 = .ok (.iload_n 0, 1) := by decide +kernel
theorem dJ6_stringSize_0f7a4_9 : decode cJ6_stringSize_0f7a4 9 = .ok (.ineg, 1) := by decide +kernel
theorem dJ6_stringSize_0f7a4_10 : decode cJ6_stringSize_0f7a4 10 = .ok (.istore_n 0, 1) := by decide +kernel
theorem dJ6_stringSize_0f7a4_11 : decode cJ6_stringSize_0f7a4 11 = .ok (.bipush (-10), 2) := by decide +kernel
theorem dJ6_stringSize_0f7a4_13 : decode cJ6_stringSize_0f7a4 13 = .ok (.istore_n 2, 1) := by decide +kernel
theorem dJ6_stringSize_0f7a4_14 : decode cJ6_stringSize_0f7a4 14 = .ok (.iconst 1, 1) := by decide +kernel
theorem dJ6_stringSize_0f7a4_15 : decode cJ6_stringSize_0f7a4 15 = .ok (.istore_n 3, 1) := by decide +kernel
theorem dJ6_stringSize_0f7a4_16 : decode cJ6_stringSize_0f7a4 16 = .ok (.iload_n 3, 1) := by decide +kernel
theorem dJ6_stringSize_0f7a4_17 : decode cJ6_stringSize_0f7a4 17 = .ok (.bipush 10, 2) := by decide +kernel
theorem dJ6_stringSize_0f7a4_19 : decode cJ6_stringSize_0f7a4 19 = .ok (.if_icmp .ge 23, 3) := by decide +kernel
theorem dJ6_stringSize_0f7a4_22 : decode cJ6_stringSize_0f7a4 22 = .ok (.iload_n 0, 1) := by decide +kernel
theorem dJ6_stringSize_0f7a4_23 : decode cJ6_stringSize_0f7a4 23 = .ok (.iload_n 2, 1) := by decide +kernel
theorem dJ6_stringSize_0f7a4_24 : decode cJ6_stringSize_0f7a4 24 = .ok (.if_icmp .le 7, 3) := by decide +kernel
theorem dJ6_stringSize_0f7a4_27 : decode cJ6_stringSize_0f7a4 27 = .ok (.iload_n 3, 1) := by decide +kernel
theorem dJ6_stringSize_0f7a4_28 : decode cJ6_stringSize_0f7a4 28 = .ok (.iload_n 1, 1) := by decide +kernel
theorem dJ6_stringSize_0f7a4_29 : decode cJ6_stringSize_0f7a4 29 = .ok (.iadd, 1) := by decide +kernel
theorem dJ6_stringSize_0f7a4_30 : decode cJ6_stringSize_0f7a4 30 = .ok (.ireturn, 1) := by decide +kernel
theorem dJ6_stringSize_0f7a4_31 : decode cJ6_stringSize_0f7a4 31 = .ok (.bipush 10, 2) := by decide +kernel
theorem dJ6_stringSize_0f7a4_33 : decode cJ6_stringSize_0f7a4 33 = .ok (.iload_n 2, 1) := by decide +kernel
theorem dJ6_stringSize_0f7a4_34 : decode cJ6_stringSize_0f7a4 34 = .ok (.imul, 1) := by decide +kernel
theorem dJ6_stringSize_0f7a4_35 : decode cJ6_stringSize_0f7a4 35 = .ok (.istore_n 2, 1) := by decide +kernel
theorem dJ6_stringSize_0f7a4_36 : decode cJ6_stringSize_0f7a4 36 = .ok (.iinc 3 1, 3) := by decide +kernel
theorem dJ6_stringSize_0f7a4_39 : decode cJ6_stringSize_0f7a4 39 = .ok (.goto (-23), 3) := by decide +kernel
theorem dJ6_stringSize_0f7a4_42 : decode cJ6_stringSize_0f7a4 42 = .ok (.bipush 10, 2) := by decide +kernel
theorem dJ6_stringSize_0f7a4_44 : decode cJ6_stringSize_0f7a4 44 = .ok (.iload_n 1, 1) := by decide +kernel
theorem dJ6_stringSize_0f7a4_45 : decode cJ6_stringSize_0f7a4 45 = .ok (.iadd, 1) := by decide +kernel
theorem dJ6_stringSize_0f7a4_46 : decode cJ6_stringSize_0f7a4 46 = .ok (.ireturn, 1) := by decide +kernel
theorem dJ9_abs_0f7a4_0 : decode cJ9_abs_0f7a4 0 = .ok (.iload_n 0, 1) := by decide +kernel
theorem dJ9_abs_0f7a4_1 : decode cJ9_abs_0f7a4 1 = .ok (.ifCond .ge 8, 3) := by decide +kernel
theorem dJ9_abs_0f7a4_4 : decode cJ9_abs_0f7a4 4 = .ok (.iload_n 0, 1) := by decide +kernel
theorem dJ9_abs_0f7a4_5 : decode cJ9_abs_0f7a4 5 = .ok (.ineg, 1) := by decide +kernel
theorem dJ9_abs_0f7a4_6 : decode cJ9_abs_0f7a4 6 = .ok (.goto 4, 3) := by decide +kernel
theorem dJ9_abs_0f7a4_9 : decode cJ9_abs_0f7a4 9 = .ok (.iload_n 0, 1) := by decide +kernel
theorem dJ9_abs_0f7a4_10 : decode cJ9_abs_0f7a4 10 = .ok (.ireturn, 1) := by decide +kernel
theorem dJ9_max_7cf53_0 : decode cJ9_max_7cf53 0 = .ok (.iload_n 0, 1) := by decide +kernel
theorem dJ9_max_7cf53_1 : decode cJ9_max_7cf53 1 = .ok (.iload_n 1, 1) := by decide +kernel
theorem dJ9_max_7cf53_2 : decode cJ9_max_7cf53 2 = .ok (.if_icmp .lt 7, 3) := by decide +kernel
theorem dJ9_max_7cf53_5 : decode cJ9_max_7cf53 5 = .ok (.iload_n 0, 1) := by decide +kernel
theorem dJ9_max_7cf53_6 : decode cJ9_max_7cf53 6 = .ok (.goto 4, 3) := by decide +kernel
theorem dJ9_max_7cf53_9 : decode cJ9_max_7cf53 9 = .ok (.iload_n 1, 1) := by decide +kernel
theorem dJ9_max_7cf53_10 : decode cJ9_max_7cf53 10 = .ok (.ireturn, 1) := by decide +kernel
theorem dJ9_min_7cf53_0 : decode cJ9_min_7cf53 0 = .ok (.iload_n 0, 1) := by decide +kernel
theorem dJ9_min_7cf53_1 : decode cJ9_min_7cf53 1 = .ok (.iload_n 1, 1) := by decide +kernel
theorem dJ9_min_7cf53_2 : decode cJ9_min_7cf53 2 = .ok (.if_icmp .gt 7, 3) := by decide +kernel
theorem dJ9_min_7cf53_5 : decode cJ9_min_7cf53 5 = .ok (.iload_n 0, 1) := by decide +kernel
theorem dJ9_min_7cf53_6 : decode cJ9_min_7cf53 6 = .ok (.goto 4, 3) := by decide +kernel
theorem dJ9_min_7cf53_9 : decode cJ9_min_7cf53 9 = .ok (.iload_n 1, 1) := by decide +kernel
theorem dJ9_min_7cf53_10 : decode cJ9_min_7cf53 10 = .ok (.ireturn, 1) := by decide +kernel
theorem dJ0_init_81219_0 : decode cJ0_init_81219 0 = .ok (.aload_n 0, 1) := by decide +kernel
theorem dJ0_init_81219_1 : decode cJ0_init_81219 1 = .ok (.aload_n 1, 1) := by decide +kernel
theorem dJ0_init_81219_2 : decode cJ0_init_81219 2 = .ok (.aconst_null, 1) := by decide +kernel
theorem dJ0_init_81219_3 : decode cJ0_init_81219 3 = .ok (.invokespecial 489, 3) := by decide +kernel
theorem dJ0_init_81219_6 : decode cJ0_init_81219 6 = .ok (.return_, 1) := by decide +kernel
theorem dJ0_length_8abf5_0 : decode cJ0_length_8abf5 0 = .ok (.aload_n 0, 1) := by decide +kernel
theorem dJ0_length_8abf5_1 : decode cJ0_length_8abf5 1 = .ok (.getfield 9, 3) := by decide +kernel
theorem dJ0_length_8abf5_4 : decode cJ0_length_8abf5 4 = .ok (.arraylength, 1) := by decide +kernel
theorem dJ0_length_8abf5_5 : decode cJ0_length_8abf5 5 = .ok (.aload_n 0, 1) := by decide +kernel
theorem dJ0_length_8abf5_6 : decode cJ0_length_8abf5 6 = .ok (.invokevirtual 335, 3) := by decide +kernel
theorem dJ0_length_8abf5_9 : decode cJ0_length_8abf5 9 = .ok (.ishr, 1) := by decide +kernel
theorem dJ0_length_8abf5_10 : decode cJ0_length_8abf5 10 = .ok (.ireturn, 1) := by decide +kernel
theorem dJ0_charAt_5068e_0 : decode cJ0_charAt_5068e 0 = .ok (.aload_n 0, 1) := by decide +kernel
theorem dJ0_charAt_5068e_1 : decode cJ0_charAt_5068e 1 = .ok (.invokevirtual 492, 3) := by decide +kernel
theorem dJ0_charAt_5068e_4 : decode cJ0_charAt_5068e 4 = .ok (.ifCond .eq 12, 3) := by decide +kernel
theorem dJ0_charAt_5068e_7 : decode cJ0_charAt_5068e 7 = .ok (.aload_n 0, 1) := by decide +kernel
theorem dJ0_charAt_5068e_8 : decode cJ0_charAt_5068e 8 = .ok (.getfield 9, 3) := by decide +kernel
theorem dJ0_charAt_5068e_11 : decode cJ0_charAt_5068e 11 = .ok (.iload_n 1, 1) := by decide +kernel
theorem dJ0_charAt_5068e_12 : decode cJ0_charAt_5068e 12 = .ok (.invokestatic 495, 3) := by decide +kernel
theorem dJ0_charAt_5068e_15 : decode cJ0_charAt_5068e 15 = .ok (.ireturn, 1) := by decide +kernel
theorem dJ0_charAt_5068e_16 : decode cJ0_charAt_5068e 16 = .ok (.aload_n 0, 1) := by decide +kernel
theorem dJ0_charAt_5068e_17 : decode cJ0_charAt_5068e 17 = .ok (.getfield 9, 3) := by decide +kernel
theorem dJ0_charAt_5068e_20 : decode cJ0_charAt_5068e 20 = .ok (.iload_n 1, 1) := by decide +kernel
theorem dJ0_charAt_5068e_21 : decode cJ0_charAt_5068e 21 = .ok (.invokestatic 498, 3) := by decide +kernel
theorem dJ0_charAt_5068e_24 : decode cJ0_charAt_5068e 24 = .ok (.ireturn, 1) := by decide +kernel
theorem dJ0_getBytes_840e7_0 : decode cJ0_getBytes_840e7 0 = .ok (.aload_n 0, 1) := by decide +kernel
theorem dJ0_getBytes_840e7_1 : decode cJ0_getBytes_840e7 1 = .ok (.invokevirtual 335, 3) := by decide +kernel
theorem dJ0_getBytes_840e7_4 : decode cJ0_getBytes_840e7 4 = .ok (.iload_n 3, 1) := by decide +kernel
theorem dJ0_getBytes_840e7_5 : decode cJ0_getBytes_840e7 5 = .ok (.if_icmp .ne 23, 3) := by decide +kernel
theorem dJ0_getBytes_840e7_8 : decode cJ0_getBytes_840e7 8 = .ok (.aload_n 0, 1) := by decide +kernel
theorem dJ0_getBytes_840e7_9 : decode cJ0_getBytes_840e7 9 = .ok (.getfield 9, 3) := by decide +kernel
theorem dJ0_getBytes_840e7_12 : decode cJ0_getBytes_840e7 12 = .ok (.iconst 0, 1) := by decide +kernel
theorem dJ0_getBytes_840e7_13 : decode cJ0_getBytes_840e7 13 = .ok (.aload_n 1, 1) := by decide +kernel
theorem dJ0_getBytes_840e7_14 : decode cJ0_getBytes_840e7 14 = .ok (.iload_n 2, 1) := by decide +kernel
theorem dJ0_getBytes_840e7_15 : decode cJ0_getBytes_840e7 15 = .ok (.iload_n 3, 1) := by decide +kernel
theorem dJ0_getBytes_840e7_16 : decode cJ0_getBytes_840e7 16 = .ok (.ishl, 1) := by decide +kernel
theorem dJ0_getBytes_840e7_17 : decode cJ0_getBytes_840e7 17 = .ok (.aload_n 0, 1) := by decide +kernel
theorem dJ0_getBytes_840e7_18 : decode cJ0_getBytes_840e7 18 = .ok (.getfield 9, 3) := by decide +kernel
theorem dJ0_getBytes_840e7_21 : decode cJ0_getBytes_840e7 21 = .ok (.arraylength, 1) := by decide +kernel
theorem dJ0_getBytes_840e7_22 : decode cJ0_getBytes_840e7 22 = .ok (.invokestatic 212, 3) := by decide +kernel
theorem dJ0_getBytes_840e7_25 : decode cJ0_getBytes_840e7 25 = .ok (.goto 18, 3) := by decide +kernel
theorem dJ0_getBytes_840e7_28 : decode cJ0_getBytes_840e7 28 = .ok (.aload_n 0, 1) := by decide +kernel
theorem dJ0_getBytes_840e7_29 : decode cJ0_getBytes_840e7 29 = .ok (.getfield 9, 3) := by decide +kernel
theorem dJ0_getBytes_840e7_32 : decode cJ0_getBytes_840e7 32 = .ok (.iconst 0, 1) := by decide +kernel
theorem dJ0_getBytes_840e7_33 : decode cJ0_getBytes_840e7 33 = .ok (.aload_n 1, 1) := by decide +kernel
theorem dJ0_getBytes_840e7_34 : decode cJ0_getBytes_840e7 34 = .ok (.iload_n 2, 1) := by decide +kernel
theorem dJ0_getBytes_840e7_35 : decode cJ0_getBytes_840e7 35 = .ok (.aload_n 0, 1) := by decide +kernel
theorem dJ0_getBytes_840e7_36 : decode cJ0_getBytes_840e7 36 = .ok (.getfield 9, 3) := by decide +kernel
theorem dJ0_getBytes_840e7_39 : decode cJ0_getBytes_840e7 39 = .ok (.arraylength, 1) := by decide +kernel
theorem dJ0_getBytes_840e7_40 : decode cJ0_getBytes_840e7 40 = .ok (.invokestatic 106, 3) := by decide +kernel
theorem dJ0_getBytes_840e7_43 : decode cJ0_getBytes_840e7 43 = .ok (.return_, 1) := by decide +kernel
theorem dJ0_init_db425_0 : decode cJ0_init_db425 0 = .ok (.aload_n 0, 1) := by decide +kernel
theorem dJ0_init_db425_1 : decode cJ0_init_db425 1 = .ok (.invokespecial 1, 3) := by decide +kernel
theorem dJ0_init_db425_4 : decode cJ0_init_db425 4 = .ok (.aload_n 1, 1) := by decide +kernel
theorem dJ0_init_db425_5 : decode cJ0_init_db425 5 = .ok (.invokevirtual 552, 3) := by decide +kernel
theorem dJ0_init_db425_8 : decode cJ0_init_db425 8 = .ok (.astore_n 3, 1) := by decide +kernel
theorem dJ0_init_db425_9 : decode cJ0_init_db425 9 = .ok (.aload_n 1, 1) := by decide +kernel
theorem dJ0_init_db425_10 : decode cJ0_init_db425 10 = .ok (.invokevirtual 549, 3) := by decide +kernel
theorem dJ0_init_db425_13 : decode cJ0_init_db425 13 = .ok (.istore 4, 2) := by decide +kernel
theorem dJ0_init_db425_15 : decode cJ0_init_db425 15 = .ok (.aload_n 1, 1) := by decide +kernel
theorem dJ0_init_db425_16 : decode cJ0_init_db425 16 = .ok (.invokevirtual 1047, 3) := by decide +kernel
theorem dJ0_init_db425_19 : decode cJ0_init_db425 19 = .ok (.ifCond .eq 22, 3) := by decide +kernel
theorem dJ0_init_db425_22 : decode cJ0_init_db425 22 = .ok (.aload_n 0, 1) := by decide +kernel
theorem dJ0_init_db425_23 : decode cJ0_init_db425 23 = .ok (.iconst 0, 1) := by decide +kernel
theorem dJ0_init_db425_24 : decode cJ0_init_db425 24 = .ok (.putfield 15, 3) := by decide +kernel
theorem dJ0_init_db425_27 : decode cJ0_init_db425 27 = .ok (.aload_n 0, 1) := by decide +kernel
theorem dJ0_init_db425_28 : decode cJ0_init_db425 28 = .ok (.aload_n 3, 1) := by decide +kernel
theorem dJ0_init_db425_29 : decode cJ0_init_db425 29 = .ok (.iconst 0, 1) := by decide +kernel
theorem dJ0_init_db425_30 : decode cJ0_init_db425 30 = .ok (.iload 4, 2) := by decide +kernel
theorem dJ0_init_db425_32 : decode cJ0_init_db425 32 = .ok (.invokestatic 54, 3) := by decide +kernel
theorem dJ0_init_db425_35 : decode cJ0_init_db425 35 = .ok (.putfield 9, 3) := by decide +kernel
theorem dJ0_init_db425_38 : decode cJ0_init_db425 38 = .ok (.goto 59, 3) := by decide +kernel
theorem dJ0_init_db425_41 : decode cJ0_init_db425 41 = .ok (.getstatic 38, 3) := by decide +kernel
theorem dJ0_init_db425_44 : decode cJ0_init_db425 44 = .ok (.ifCond .eq 35, 3) := by decide +kernel
theorem dJ0_init_db425_47 : decode cJ0_init_db425 47 = .ok (.aload_n 1, 1) := by decide +kernel
theorem dJ0_init_db425_48 : decode cJ0_init_db425 48 = .ok (.getfield 1048, 3) := by decide +kernel
theorem dJ0_init_db425_51 : decode cJ0_init_db425 51 = .ok (.ifCond .eq 28, 3) := by decide +kernel
theorem dJ0_init_db425_54 : decode cJ0_init_db425 54 = .ok (.aload_n 0, 1) := by decide +kernel
theorem dJ0_init_db425_55 : decode cJ0_init_db425 55 = .ok (.aload_n 3, 1) := by decide +kernel
theorem dJ0_init_db425_56 : decode cJ0_init_db425 56 = .ok (.iconst 0, 1) := by decide +kernel
theorem dJ0_init_db425_57 : decode cJ0_init_db425 57 = .ok (.iload 4, 2) := by decide +kernel
theorem dJ0_init_db425_59 : decode cJ0_init_db425 59 = .ok (.invokestatic 1051, 3) := by decide +kernel
theorem dJ0_init_db425_62 : decode cJ0_init_db425 62 = .ok (.putfield 9, 3) := by decide +kernel
theorem dJ0_init_db425_65 : decode cJ0_init_db425 65 = .ok (.aload_n 0, 1) := by decide +kernel
theorem dJ0_init_db425_66 : decode cJ0_init_db425 66 = .ok (.aload_n 0, 1) := by decide +kernel
theorem dJ0_init_db425_67 : decode cJ0_init_db425 67 = .ok (.getfield 9, 3) := by decide +kernel
theorem dJ0_init_db425_70 : decode cJ0_init_db425 70 = .ok (.iload 4, 2) := by decide +kernel
theorem dJ0_init_db425_72 : decode cJ0_init_db425 72 = .ok (.invokestatic 47, 3) := by decide +kernel
theorem dJ0_init_db425_75 : decode cJ0_init_db425 75 = .ok (.putfield 15, 3) := by decide +kernel
theorem dJ0_init_db425_78 : decode cJ0_init_db425 78 = .ok (.return_, 1) := by decide +kernel
theorem dJ0_init_db425_79 : decode cJ0_init_db425 79 = .ok (.aload_n 0, 1) := by decide +kernel
theorem dJ0_init_db425_80 : decode cJ0_init_db425 80 = .ok (.iconst 1, 1) := by decide +kernel
theorem dJ0_init_db425_81 : decode cJ0_init_db425 81 = .ok (.putfield 15, 3) := by decide +kernel
theorem dJ0_init_db425_84 : decode cJ0_init_db425 84 = .ok (.aload_n 0, 1) := by decide +kernel
theorem dJ0_init_db425_85 : decode cJ0_init_db425 85 = .ok (.aload_n 3, 1) := by decide +kernel
theorem dJ0_init_db425_86 : decode cJ0_init_db425 86 = .ok (.iconst 0, 1) := by decide +kernel
theorem dJ0_init_db425_87 : decode cJ0_init_db425 87 = .ok (.iload 4, 2) := by decide +kernel
theorem dJ0_init_db425_89 : decode cJ0_init_db425 89 = .ok (.iconst 1, 1) := by decide +kernel
theorem dJ0_init_db425_90 : decode cJ0_init_db425 90 = .ok (.ishl, 1) := by decide +kernel
theorem dJ0_init_db425_91 : decode cJ0_init_db425 91 = .ok (.invokestatic 54, 3) := by decide +kernel
theorem dJ0_init_db425_94 : decode cJ0_init_db425 94 = .ok (.putfield 9, 3) := by decide +kernel
theorem dJ0_init_db425_97 : decode cJ0_init_db425 97 = .ok (.return_, 1) := by decide +kernel
theorem dJ0_coder_7d493_0 : decode cJ0_coder_7d493 0 = .ok (.getstatic 38, 3) := by decide +kernel
theorem dJ0_coder_7d493_3 : decode cJ0_coder_7d493 3 = .ok (.ifCond .eq 10, 3) := by decide +kernel
theorem dJ0_coder_7d493_6 : decode cJ0_coder_7d493 6 = .ok (.aload_n 0, 1) := by decide +kernel
theorem dJ0_coder_7d493_7 : decode cJ0_coder_7d493 7 = .ok (.getfield 15, 3) := by decide +kernel
theorem dJ0_coder_7d493_10 : decode cJ0_coder_7d493 10 = .ok (.goto 4, 3) := by decide +kernel
theorem dJ0_coder_7d493_13 : decode cJ0_coder_7d493 13 = .ok (.iconst 1, 1) := by decide +kernel
theorem dJ0_coder_7d493_14 : decode cJ0_coder_7d493 14 = .ok (.ireturn, 1) := by decide +kernel
theorem dJ0_isLatin1_aae02_0 : decode cJ0_isLatin1_aae02 0 = .ok (.getstatic 38, 3) := by decide +kernel
theorem dJ0_isLatin1_aae02_3 : decode cJ0_isLatin1_aae02 3 = .ok (.ifCond .eq 14, 3) := by decide +kernel
theorem dJ0_isLatin1_aae02_6 : decode cJ0_isLatin1_aae02 6 = .ok (.aload_n 0, 1) := by decide +kernel
theorem dJ0_isLatin1_aae02_7 : decode cJ0_isLatin1_aae02 7 = .ok (.getfield 15, 3) := by decide +kernel
theorem dJ0_isLatin1_aae02_10 : decode cJ0_isLatin1_aae02 10 = .ok (.ifCond .ne 7, 3) := by decide +kernel
theorem dJ0_isLatin1_aae02_13 : decode cJ0_isLatin1_aae02 13 = .ok (.iconst 1, 1) := by decide +kernel
theorem dJ0_isLatin1_aae02_14 : decode cJ0_isLatin1_aae02 14 = .ok (.goto 4, 3) := by decide +kernel
theorem dJ0_isLatin1_aae02_17 : decode cJ0_isLatin1_aae02 17 = .ok (.iconst 0, 1) := by decide +kernel
theorem dJ0_isLatin1_aae02_18 : decode cJ0_isLatin1_aae02 18 = .ok (.ireturn, 1) := by decide +kernel
theorem dJ0_checkIndex_df160_0 : decode cJ0_checkIndex_df160 0 = .ok (.iload_n 0, 1) := by decide +kernel
theorem dJ0_checkIndex_df160_1 : decode cJ0_checkIndex_df160 1 = .ok (.iload_n 1, 1) := by decide +kernel
theorem dJ0_checkIndex_df160_2 : decode cJ0_checkIndex_df160 2 = .ok (.getstatic 1053, 3) := by decide +kernel
theorem dJ0_checkIndex_df160_5 : decode cJ0_checkIndex_df160 5 = .ok (.invokestatic 1059, 3) := by decide +kernel
theorem dJ0_checkIndex_df160_8 : decode cJ0_checkIndex_df160 8 = .ok (.pop, 1) := by decide +kernel
theorem dJ0_checkIndex_df160_9 : decode cJ0_checkIndex_df160 9 = .ok (.return_, 1) := by decide +kernel
theorem dJ0_checkBoundsOffCount_cabcc_0 : decode cJ0_checkBoundsOffCount_cabcc 0 = .ok (.iload_n 0, 1) := by decide +kernel
theorem dJ0_checkBoundsOffCount_cabcc_1 : decode cJ0_checkBoundsOffCount_cabcc 1 = .ok (.iload_n 1, 1) := by decide +kernel
theorem dJ0_checkBoundsOffCount_cabcc_2 : decode cJ0_checkBoundsOffCount_cabcc 2 = .ok (.iload_n 2, 1) := by decide +kernel
theorem dJ0_checkBoundsOffCount_cabcc_3 : decode cJ0_checkBoundsOffCount_cabcc 3 = .ok (.getstatic 1053, 3) := by decide +kernel
theorem dJ0_checkBoundsOffCount_cabcc_6 : decode cJ0_checkBoundsOffCount_cabcc 6 = .ok (.invokestatic 1065, 3) := by decide +kernel
theorem dJ0_checkBoundsOffCount_cabcc_9 : decode cJ0_checkBoundsOffCount_cabcc 9 = .ok (.ireturn, 1) := by decide +kernel
theorem dJ0_checkBoundsBeginEnd_23922_0 : decode cJ0_checkBoundsBeginEnd_23922 0 = .ok (.iload_n 0, 1) := by decide +kernel
theorem dJ0_checkBoundsBeginEnd_23922_1 : decode cJ0_checkBoundsBeginEnd_23922 1 = .ok (.iload_n 1, 1) := by decide +kernel
theorem dJ0_checkBoundsBeginEnd_23922_2 : decode cJ0_checkBoundsBeginEnd_23922 2 = .ok (.iload_n 2, 1) := by decide +kernel
theorem dJ0_checkBoundsBeginEnd_23922_3 : decode cJ0_checkBoundsBeginEnd_23922 3 = .ok (.getstatic 1053, 3) := by decide +kernel
theorem dJ0_checkBoundsBeginEnd_23922_6 : decode cJ0_checkBoundsBeginEnd_23922 6 = .ok (.invokestatic 1062, 3) := by decide +kernel
theorem dJ0_checkBoundsBeginEnd_23922_9 : decode cJ0_checkBoundsBeginEnd_23922 9 = .ok (.pop, 1) := by decide +kernel
theorem dJ0_checkBoundsBeginEnd_23922_10 : decode cJ0_checkBoundsBeginEnd_23922 10 = .ok (.return_, 1) := by decide +kernel
theorem dJ4_init_a7421_0 : decode cJ4_init_a7421 0 = .ok (.aload_n 0, 1) := by decide +kernel
theorem dJ4_init_a7421_1 : decode cJ4_init_a7421 1 = .ok (.aload_n 1, 1) := by decide +kernel
theorem dJ4_init_a7421_2 : decode cJ4_init_a7421 2 = .ok (.invokespecial 7, 3) := by decide +kernel
theorem dJ4_init_a7421_5 : decode cJ4_init_a7421 5 = .ok (.return_, 1) := by decide +kernel
theorem dJ4_append_15ec4_0 : decode cJ4_append_15ec4 0 = .ok (.aload_n 0, 1) := by decide +kernel
theorem dJ4_append_15ec4_1 : decode cJ4_append_15ec4 1 = .ok (.aload_n 1, 1) := by decide +kernel
theorem dJ4_append_15ec4_2 : decode cJ4_append_15ec4 2 = .ok (.invokespecial 29, 3) := by decide +kernel
theorem dJ4_append_15ec4_5 : decode cJ4_append_15ec4 5 = .ok (.pop, 1) := by decide +kernel
theorem dJ4_append_15ec4_6 : decode cJ4_append_15ec4 6 = .ok (.aload_n 0, 1) := by decide +kernel
theorem dJ4_append_15ec4_7 : decode cJ4_append_15ec4 7 = .ok (.areturn, 1) := by decide +kernel
theorem dJ4_append_cf468_0 : decode cJ4_append_cf468 0 = .ok (.aload_n 0, 1) := by decide +kernel
theorem dJ4_append_cf468_1 : decode cJ4_append_cf468 1 = .ok (.iload_n 1, 1) := by decide +kernel
theorem dJ4_append_cf468_2 : decode cJ4_append_cf468 2 = .ok (.invokespecial 50, 3) := by decide +kernel
theorem dJ4_append_cf468_5 : decode cJ4_append_cf468 5 = .ok (.pop, 1) := by decide +kernel
theorem dJ4_append_cf468_6 : decode cJ4_append_cf468 6 = .ok (.aload_n 0, 1) := by decide +kernel
theorem dJ4_append_cf468_7 : decode cJ4_append_cf468 7 = .ok (.areturn, 1) := by decide +kernel
theorem dJ4_append_bf812_0 : decode cJ4_append_bf812 0 = .ok (.aload_n 0, 1) := by decide +kernel
theorem dJ4_append_bf812_1 : decode cJ4_append_bf812 1 = .ok (.iload_n 1, 1) := by decide +kernel
theorem dJ4_append_bf812_2 : decode cJ4_append_bf812 2 = .ok (.invokespecial 53, 3) := by decide +kernel
theorem dJ4_append_bf812_5 : decode cJ4_append_bf812 5 = .ok (.pop, 1) := by decide +kernel
theorem dJ4_append_bf812_6 : decode cJ4_append_bf812 6 = .ok (.aload_n 0, 1) := by decide +kernel
theorem dJ4_append_bf812_7 : decode cJ4_append_bf812 7 = .ok (.areturn, 1) := by decide +kernel
theorem dJ4_toString_0e30d_0 : decode cJ4_toString_0e30d 0 = .ok (.new 18, 3) := by decide +kernel
theorem dJ4_toString_0e30d_3 : decode cJ4_toString_0e30d 3 = .ok (.dup, 1) := by decide +kernel
theorem dJ4_toString_0e30d_4 : decode cJ4_toString_0e30d 4 = .ok (.aload_n 0, 1) := by decide +kernel
theorem dJ4_toString_0e30d_5 : decode cJ4_toString_0e30d 5 = .ok (.invokespecial 137, 3) := by decide +kernel
theorem dJ4_toString_0e30d_8 : decode cJ4_toString_0e30d 8 = .ok (.areturn, 1) := by decide +kernel
theorem dJ4_append_cf1ce_0 : decode cJ4_append_cf1ce 0 = .ok (.aload_n 0, 1) := by decide +kernel
theorem dJ4_append_cf1ce_1 : decode cJ4_append_cf1ce 1 = .ok (.aload_n 1, 1) := by decide +kernel
theorem dJ4_append_cf1ce_2 : decode cJ4_append_cf1ce 2 = .ok (.invokevirtual 23, 3) := by decide +kernel
theorem dJ4_append_cf1ce_5 : decode cJ4_append_cf1ce 5 = .ok (.areturn, 1) := by decide +kernel
theorem dJ4_length_8abf5_0 : decode cJ4_length_8abf5 0 = .ok (.aload_n 0, 1) := by decide +kernel
theorem dJ4_length_8abf5_1 : decode cJ4_length_8abf5 1 = .ok (.invokespecial 343, 3) := by decide +kernel
theorem dJ4_length_8abf5_4 : decode cJ4_length_8abf5 4 = .ok (.ireturn, 1) := by decide +kernel
theorem dJ1_charAt_3b067_0 : decode cJ1_charAt_3b067 0 = .ok (.iload_n 1, 1) := by decide +kernel
theorem dJ1_charAt_3b067_1 : decode cJ1_charAt_3b067 1 = .ok (.aload_n 0, 1) := by decide +kernel
theorem dJ1_charAt_3b067_2 : decode cJ1_charAt_3b067 2 = .ok (.arraylength, 1) := by decide +kernel
theorem dJ1_charAt_3b067_3 : decode cJ1_charAt_3b067 3 = .ok (.invokestatic 9, 3) := by decide +kernel
theorem dJ1_charAt_3b067_6 : decode cJ1_charAt_3b067 6 = .ok (.aload_n 0, 1) := by decide +kernel
theorem dJ1_charAt_3b067_7 : decode cJ1_charAt_3b067 7 = .ok (.iload_n 1, 1) := by decide +kernel
theorem dJ1_charAt_3b067_8 : decode cJ1_charAt_3b067 8 = .ok (.baload, 1) := by decide +kernel
theorem dJ1_charAt_3b067_9 : decode cJ1_charAt_3b067 9 = .ok (.sipush 255, 3) := by decide +kernel
theorem dJ1_charAt_3b067_12 : decode cJ1_charAt_3b067 12 = .ok (.iand, 1) := by decide +kernel
theorem dJ1_charAt_3b067_13 : decode cJ1_charAt_3b067 13 = .ok (.i2c, 1) := by decide +kernel
theorem dJ1_charAt_3b067_14 : decode cJ1_charAt_3b067 14 = .ok (.ireturn, 1) := by decide +kernel
theorem dJ1_canEncode_fc78d_0 : decode cJ1_canEncode_fc78d 0 = .ok (.iload_n 0, 1) := by decide +kernel
theorem dJ1_canEncode_fc78d_1 : decode cJ1_canEncode_fc78d 1 = .ok (.sipush 255, 3) := by decide +kernel
theorem dJ1_canEncode_fc78d_4 : decode cJ1_canEncode_fc78d 4 = .ok (.if_icmp .gt 7, 3) := by decide +kernel
theorem dJ1_canEncode_fc78d_7 : decode cJ1_canEncode_fc78d 7 = .ok (.iconst 1, 1) := by decide +kernel
theorem dJ1_canEncode_fc78d_8 : decode cJ1_canEncode_fc78d 8 = .ok (.goto 4, 3) := by decide +kernel
theorem dJ1_canEncode_fc78d_11 : decode cJ1_canEncode_fc78d 11 = .ok (.iconst 0, 1) := by decide +kernel
theorem dJ1_canEncode_fc78d_12 : decode cJ1_canEncode_fc78d 12 = .ok (.ireturn, 1) := by decide +kernel
theorem dJ1_inflate_0e8fd_0 : decode cJ1_inflate_0e8fd 0 = .ok (.aload_n 0, 1) := by decide +kernel
theorem dJ1_inflate_0e8fd_1 : decode cJ1_inflate_0e8fd 1 = .ok (.iload_n 1, 1) := by decide +kernel
theorem dJ1_inflate_0e8fd_2 : decode cJ1_inflate_0e8fd 2 = .ok (.aload_n 2, 1) := by decide +kernel
theorem dJ1_inflate_0e8fd_3 : decode cJ1_inflate_0e8fd 3 = .ok (.iload_n 3, 1) := by decide +kernel
theorem dJ1_inflate_0e8fd_4 : decode cJ1_inflate_0e8fd 4 = .ok (.iload 4, 2) := by decide +kernel
theorem dJ1_inflate_0e8fd_6 : decode cJ1_inflate_0e8fd 6 = .ok (.invokestatic 240, 3) := by decide +kernel
theorem dJ1_inflate_0e8fd_9 : decode cJ1_inflate_0e8fd 9 = .ok (.return_, 1) := by decide +kernel
theorem dJ7_copyOf_9075b_0 : decode cJ7_copyOf_9075b 0 = .ok (.iload_n 1, 1) := by decide +kernel
theorem dJ7_copyOf_9075b_1 : decode cJ7_copyOf_9075b 1 = .ok (.aload_n 0, 1) := by decide +kernel
theorem dJ7_copyOf_9075b_2 : decode cJ7_copyOf_9075b 2 = .ok (.arraylength, 1) := by decide +kernel
theorem dJ7_copyOf_9075b_3 : decode cJ7_copyOf_9075b 3 = .ok (.if_icmp .ne 11, 3) := by decide +kernel
theorem dJ7_copyOf_9075b_6 : decode cJ7_copyOf_9075b 6 = .ok (.aload_n 0, 1) := by decide +kernel
theorem dJ7_copyOf_9075b_7 : decode cJ7_copyOf_9075b 7 = .ok (.invokevirtual 310, 3) := by decide +kernel
theorem dJ7_copyOf_9075b_10 : decode cJ7_copyOf_9075b 10 = .ok (.checkcast 311, 3) := by decide +kernel
theorem dJ7_copyOf_9075b_13 : decode cJ7_copyOf_9075b 13 = .ok (.areturn, 1) := by decide +kernel
theorem dJ7_copyOf_9075b_14 : decode cJ7_copyOf_9075b 14 = .ok (.iload_n 1, 1) := by decide +kernel
theorem dJ7_copyOf_9075b_15 : decode cJ7_copyOf_9075b 15 = .ok (.newarray .byte, 2) := by decide +kernel
theorem dJ7_copyOf_9075b_17 : decode cJ7_copyOf_9075b 17 = .ok (.astore_n 2, 1) := by decide +kernel
theorem dJ7_copyOf_9075b_18 : decode cJ7_copyOf_9075b 18 = .ok (.aload_n 0, 1) := by decide +kernel
theorem dJ7_copyOf_9075b_19 : decode cJ7_copyOf_9075b 19 = .ok (.iconst 0, 1) := by decide +kernel
theorem dJ7_copyOf_9075b_20 : decode cJ7_copyOf_9075b 20 = .ok (.aload_n 2, 1) := by decide +kernel
theorem dJ7_copyOf_9075b_21 : decode cJ7_copyOf_9075b 21 = .ok (.iconst 0, 1) := by decide +kernel
theorem dJ7_copyOf_9075b_22 : decode cJ7_copyOf_9075b 22 = .ok (.aload_n 0, 1) := by decide +kernel
theorem dJ7_copyOf_9075b_23 : decode cJ7_copyOf_9075b 23 = .ok (.arraylength, 1) := by decide +kernel
theorem dJ7_copyOf_9075b_24 : decode cJ7_copyOf_9075b 24 = .ok (.iload_n 1, 1) := by decide +kernel
theorem dJ7_copyOf_9075b_25 : decode cJ7_copyOf_9075b 25 = .ok (.invokestatic 304, 3) := by decide +kernel
theorem dJ7_copyOf_9075b_28 : decode cJ7_copyOf_9075b 28 = .ok (.invokestatic 150, 3) := by decide +kernel
theorem dJ7_copyOf_9075b_31 : decode cJ7_copyOf_9075b 31 = .ok (.aload_n 2, 1) := by decide +kernel
theorem dJ7_copyOf_9075b_32 : decode cJ7_copyOf_9075b 32 = .ok (.areturn, 1) := by decide +kernel
theorem dJ7_checkLength_df160_0 : decode cJ7_checkLength_df160 0 = .ok (.iload_n 1, 1) := by decide +kernel
theorem dJ7_checkLength_df160_1 : decode cJ7_checkLength_df160 1 = .ok (.iload_n 0, 1) := by decide +kernel
theorem dJ7_checkLength_df160_2 : decode cJ7_checkLength_df160 2 = .ok (.if_icmp .ge 35, 3) := by decide +kernel
theorem dJ7_checkLength_df160_5 : decode cJ7_checkLength_df160 5 = .ok (.new 43, 3) := by decide +kernel
theorem dJ7_checkLength_df160_8 : decode cJ7_checkLength_df160 8 = .ok (.dup, 1) := by decide +kernel
theorem dJ7_checkLength_df160_9 : decode cJ7_checkLength_df160 9 = .ok (.new 45, 3) := by decide +kernel
theorem dJ7_checkLength_df160_12 : decode cJ7_checkLength_df160 12 = .ok (.dup, 1) := by decide +kernel
theorem dJ7_checkLength_df160_13 : decode cJ7_checkLength_df160 13 = .ok (.invokespecial 47, 3) := by decide +kernel
theorem dJ7_checkLength_df160_16 : decode cJ7_checkLength_df160 16 = .ok (.iload_n 0, 1) := by decide +kernel
theorem dJ7_checkLength_df160_17 : decode cJ7_checkLength_df160 17 = .ok (.invokevirtual 54, 3) := by decide +kernel
theorem dJ7_checkLength_df160_20 : decode cJ7_checkLength_df160 20 = .ok (.ldc_w 337, 3) := by decide +kernel
theorem dJ7_checkLength_df160_23 : decode cJ7_checkLength_df160 23 = .ok (.invokevirtual 50, 3) := by decide +kernel
theorem dJ7_checkLength_df160_26 : decode cJ7_checkLength_df160 26 = .ok (.iload_n 1, 1) := by decide +kernel
theorem dJ7_checkLength_df160_27 : decode cJ7_checkLength_df160 27 = .ok (.invokevirtual 54, 3) := by decide +kernel
theorem dJ7_checkLength_df160_30 : decode cJ7_checkLength_df160 30 = .ok (.invokevirtual 61, 3) := by decide +kernel
theorem dJ7_checkLength_df160_33 : decode cJ7_checkLength_df160 33 = .ok (.invokespecial 65, 3) := by decide +kernel
theorem dJ7_checkLength_df160_36 : decode cJ7_checkLength_df160 36 = .ok (.athrow, 1) := by decide +kernel
theorem dJ7_checkLength_df160_37 : decode cJ7_checkLength_df160 37 = .ok (.return_, 1) := by decide +kernel
theorem dJ7_copyOfRange_39247_0 : decode cJ7_copyOfRange_39247 0 = .ok (.iload_n 1, 1) := by decide +kernel
theorem dJ7_copyOfRange_39247_1 : decode cJ7_copyOfRange_39247 1 = .ok (.ifCond .ne 9, 3) := by decide +kernel
theorem dJ7_copyOfRange_39247_4 : decode cJ7_copyOfRange_39247 4 = .ok (.iload_n 2, 1) := by decide +kernel
theorem dJ7_copyOfRange_39247_5 : decode cJ7_copyOfRange_39247 5 = .ok (.aload_n 0, 1) := by decide +kernel
theorem dJ7_copyOfRange_39247_6 : decode cJ7_copyOfRange_39247 6 = .ok (.arraylength, 1) := by decide +kernel
theorem dJ7_copyOfRange_39247_7 : decode cJ7_copyOfRange_39247 7 = .ok (.if_icmp .eq 10, 3) := by decide +kernel
theorem dJ7_copyOfRange_39247_10 : decode cJ7_copyOfRange_39247 10 = .ok (.aload_n 0, 1) := by decide +kernel
theorem dJ7_copyOfRange_39247_11 : decode cJ7_copyOfRange_39247 11 = .ok (.iload_n 1, 1) := by decide +kernel
theorem dJ7_copyOfRange_39247_12 : decode cJ7_copyOfRange_39247 12 = .ok (.iload_n 2, 1) := by decide +kernel
theorem dJ7_copyOfRange_39247_13 : decode cJ7_copyOfRange_39247 13 = .ok (.invokestatic 339, 3) := by decide +kernel
theorem dJ7_copyOfRange_39247_16 : decode cJ7_copyOfRange_39247 16 = .ok (.areturn, 1) := by decide +kernel
theorem dJ7_copyOfRange_39247_17 : decode cJ7_copyOfRange_39247 17 = .ok (.aload_n 0, 1) := by decide +kernel
theorem dJ7_copyOfRange_39247_18 : decode cJ7_copyOfRange_39247 18 = .ok (.invokevirtual 310, 3) := by decide +kernel
theorem dJ7_copyOfRange_39247_21 : decode cJ7_copyOfRange_39247 21 = .ok (.checkcast 311, 3) := by decide +kernel
theorem dJ7_copyOfRange_39247_24 : decode cJ7_copyOfRange_39247 24 = .ok (.areturn, 1) := by decide +kernel
theorem dJ7_copyOfRangeByte_39247_0 : decode cJ7_copyOfRangeByte_39247 0 = .ok (.iload_n 1, 1) := by decide +kernel
theorem dJ7_copyOfRangeByte_39247_1 : decode cJ7_copyOfRangeByte_39247 1 = .ok (.iload_n 2, 1) := by decide +kernel
theorem dJ7_copyOfRangeByte_39247_2 : decode cJ7_copyOfRangeByte_39247 2 = .ok (.invokestatic 343, 3) := by decide +kernel
theorem dJ7_copyOfRangeByte_39247_5 : decode cJ7_copyOfRangeByte_39247 5 = .ok (.iload_n 2, 1) := by decide +kernel
theorem dJ7_copyOfRangeByte_39247_6 : decode cJ7_copyOfRangeByte_39247 6 = .ok (.iload_n 1, 1) := by decide +kernel
theorem dJ7_copyOfRangeByte_39247_7 : decode cJ7_copyOfRangeByte_39247 7 = .ok (.isub, 1) := by decide +kernel
theorem dJ7_copyOfRangeByte_39247_8 : decode cJ7_copyOfRangeByte_39247 8 = .ok (.istore_n 3, 1) := by decide +kernel
theorem dJ7_copyOfRangeByte_39247_9 : decode cJ7_copyOfRangeByte_39247 9 = .ok (.iload_n 3, 1) := by decide +kernel
theorem dJ7_copyOfRangeByte_39247_10 : decode cJ7_copyOfRangeByte_39247 10 = .ok (.newarray .byte, 2) := by decide +kernel
theorem dJ7_copyOfRangeByte_39247_12 : decode cJ7_copyOfRangeByte_39247 12 = .ok (.astore 4, 2) := by decide +kernel
theorem dJ7_copyOfRangeByte_39247_14 : decode cJ7_copyOfRangeByte_39247 14 = .ok (.aload_n 0, 1) := by decide +kernel
theorem dJ7_copyOfRangeByte_39247_15 : decode cJ7_copyOfRangeByte_39247 15 = .ok (.iload_n 1, 1) := by decide +kernel
theorem dJ7_copyOfRangeByte_39247_16 : decode cJ7_copyOfRangeByte_39247 16 = .ok (.aload 4, 2) := by decide +kernel
theorem dJ7_copyOfRangeByte_39247_18 : decode cJ7_copyOfRangeByte_39247 18 = .ok (.iconst 0, 1) := by decide +kernel
theorem dJ7_copyOfRangeByte_39247_19 : decode cJ7_copyOfRangeByte_39247 19 = .ok (.aload_n 0, 1) := by decide +kernel
theorem dJ7_copyOfRangeByte_39247_20 : decode cJ7_copyOfRangeByte_39247 20 = .ok (.arraylength, 1) := by decide +kernel
theorem dJ7_copyOfRangeByte_39247_21 : decode cJ7_copyOfRangeByte_39247 21 = .ok (.iload_n 1, 1) := by decide +kernel
theorem dJ7_copyOfRangeByte_39247_22 : decode cJ7_copyOfRangeByte_39247 22 = .ok (.isub, 1) := by decide +kernel
theorem dJ7_copyOfRangeByte_39247_23 : decode cJ7_copyOfRangeByte_39247 23 = .ok (.iload_n 3, 1) := by decide +kernel
theorem dJ7_copyOfRangeByte_39247_24 : decode cJ7_copyOfRangeByte_39247 24 = .ok (.invokestatic 304, 3) := by decide +kernel
theorem dJ7_copyOfRangeByte_39247_27 : decode cJ7_copyOfRangeByte_39247 27 = .ok (.invokestatic 150, 3) := by decide +kernel
theorem dJ7_copyOfRangeByte_39247_30 : decode cJ7_copyOfRangeByte_39247 30 = .ok (.aload 4, 2) := by decide +kernel
theorem dJ7_copyOfRangeByte_39247_32 : decode cJ7_copyOfRangeByte_39247 32 = .ok (.areturn, 1) := by decide +kernel
theorem dJ8_newLength_cabcc_0 : decode cJ8_newLength_cabcc 0 = .ok (.iload_n 0, 1) := by decide +kernel
theorem dJ8_newLength_cabcc_1 : decode cJ8_newLength_cabcc 1 = .ok (.iload_n 1, 1) := by decide +kernel
theorem dJ8_newLength_cabcc_2 : decode cJ8_newLength_cabcc 2 = .ok (.iload_n 2, 1) := by decide +kernel
theorem dJ8_newLength_cabcc_3 : decode cJ8_newLength_cabcc 3 = .ok (.invokestatic 194, 3) := by decide +kernel
theorem dJ8_newLength_cabcc_6 : decode cJ8_newLength_cabcc 6 = .ok (.iadd, 1) := by decide +kernel
theorem dJ8_newLength_cabcc_7 : decode cJ8_newLength_cabcc 7 = .ok (.istore_n 3, 1) := by decide +kernel
theorem dJ8_newLength_cabcc_8 : decode cJ8_newLength_cabcc 8 = .ok (.iconst 0, 1) := by decide +kernel
theorem dJ8_newLength_cabcc_9 : decode cJ8_newLength_cabcc 9 = .ok (.iload_n 3, 1) := by decide +kernel
theorem dJ8_newLength_cabcc_10 : decode cJ8_newLength_cabcc 10 = .ok (.if_icmp .ge 11, 3) := by decide +kernel
theorem dJ8_newLength_cabcc_13 : decode cJ8_newLength_cabcc 13 = .ok (.iload_n 3, 1) := by decide +kernel
theorem dJ8_newLength_cabcc_14 : decode cJ8_newLength_cabcc 14 = .ok (.ldc 200, 2) := by decide +kernel
theorem dJ8_newLength_cabcc_16 : decode cJ8_newLength_cabcc 16 = .ok (.if_icmp .gt 5, 3) := by decide +kernel
theorem dJ8_newLength_cabcc_19 : decode cJ8_newLength_cabcc 19 = .ok (.iload_n 3, 1) := by decide +kernel
theorem dJ8_newLength_cabcc_20 : decode cJ8_newLength_cabcc 20 = .ok (.ireturn, 1) := by decide +kernel
theorem dJ8_newLength_cabcc_21 : decode cJ8_newLength_cabcc 21 = .ok (.iload_n 0, 1) := by decide +kernel
theorem dJ8_newLength_cabcc_22 : decode cJ8_newLength_cabcc 22 = .ok (.iload_n 1, 1) := by decide +kernel
theorem dJ8_newLength_cabcc_23 : decode cJ8_newLength_cabcc 23 = .ok (.invokestatic 201, 3) := by decide +kernel
theorem dJ8_newLength_cabcc_26 : decode cJ8_newLength_cabcc 26 = .ok (.ireturn, 1) := by decide +kernel
theorem dJ8_hugeLength_7cf53_0 : decode cJ8_hugeLength_7cf53 0 = .ok (.iload_n 0, 1) := by decide +kernel
theorem dJ8_hugeLength_7cf53_1 : decode cJ8_hugeLength_7cf53 1 = .ok (.iload_n 1, 1) := by decide +kernel
theorem dJ8_hugeLength_7cf53_2 : decode cJ8_hugeLength_7cf53 2 = .ok (.iadd, 1) := by decide +kernel
theorem dJ8_hugeLength_7cf53_3 : decode cJ8_hugeLength_7cf53 3 = .ok (.istore_n 2, 1) := by decide +kernel
theorem dJ8_hugeLength_7cf53_4 : decode cJ8_hugeLength_7cf53 4 = .ok (.iload_n 2, 1) := by decide +kernel
theorem dJ8_hugeLength_7cf53_5 : decode cJ8_hugeLength_7cf53 5 = .ok (.ifCond .ge 44, 3) := by decide +kernel
theorem dJ8_hugeLength_7cf53_8 : decode cJ8_hugeLength_7cf53 8 = .ok (.new 204, 3) := by decide +kernel
theorem dJ8_hugeLength_7cf53_11 : decode cJ8_hugeLength_7cf53 11 = .ok (.dup, 1) := by decide +kernel
theorem dJ8_hugeLength_7cf53_12 : decode cJ8_hugeLength_7cf53 12 = .ok (.new 89, 3) := by decide +kernel
theorem dJ8_hugeLength_7cf53_15 : decode cJ8_hugeLength_7cf53 15 = .ok (.dup, 1) := by decide +kernel
theorem dJ8_hugeLength_7cf53_16 : decode cJ8_hugeLength_7cf53 16 = .ok (.invokespecial 91, 3) := by decide +kernel
theorem dJ8_hugeLength_7cf53_19 : decode cJ8_hugeLength_7cf53 19 = .ok (.ldc 206, 2) := by decide +kernel
theorem dJ8_hugeLength_7cf53_21 : decode cJ8_hugeLength_7cf53 21 = .ok (.invokevirtual 94, 3) := by decide +kernel
theorem dJ8_hugeLength_7cf53_24 : decode cJ8_hugeLength_7cf53 24 = .ok (.iload_n 0, 1) := by decide +kernel
theorem dJ8_hugeLength_7cf53_25 : decode cJ8_hugeLength_7cf53 25 = .ok (.invokevirtual 98, 3) := by decide +kernel
theorem dJ8_hugeLength_7cf53_28 : decode cJ8_hugeLength_7cf53 28 = .ok (.ldc 208, 2) := by decide +kernel
theorem dJ8_hugeLength_7cf53_30 : decode cJ8_hugeLength_7cf53 30 = .ok (.invokevirtual 94, 3) := by decide +kernel
theorem dJ8_hugeLength_7cf53_33 : decode cJ8_hugeLength_7cf53 33 = .ok (.iload_n 1, 1) := by decide +kernel
theorem dJ8_hugeLength_7cf53_34 : decode cJ8_hugeLength_7cf53 34 = .ok (.invokevirtual 98, 3) := by decide +kernel
theorem dJ8_hugeLength_7cf53_37 : decode cJ8_hugeLength_7cf53 37 = .ok (.ldc 210, 2) := by decide +kernel
theorem dJ8_hugeLength_7cf53_39 : decode cJ8_hugeLength_7cf53 39 = .ok (.invokevirtual 94, 3) := by decide +kernel
theorem dJ8_hugeLength_7cf53_42 : decode cJ8_hugeLength_7cf53 42 = .ok (.invokevirtual 101, 3) := by decide +kernel
theorem dJ8_hugeLength_7cf53_45 : decode cJ8_hugeLength_7cf53 45 = .ok (.invokespecial 212, 3) := by decide +kernel
theorem dJ8_hugeLength_7cf53_48 : decode cJ8_hugeLength_7cf53 48 = .ok (.athrow, 1) := by decide +kernel
theorem dJ8_hugeLength_7cf53_49 : decode cJ8_hugeLength_7cf53 49 = .ok (.iload_n 2, 1) := by decide +kernel
theorem dJ8_hugeLength_7cf53_50 : decode cJ8_hugeLength_7cf53 50 = .ok (.ldc 200, 2) := by decide +kernel
theorem dJ8_hugeLength_7cf53_52 : decode cJ8_hugeLength_7cf53 52 = .ok (.if_icmp .gt 6, 3) := by decide +kernel
theorem dJ8_hugeLength_7cf53_55 : decode cJ8_hugeLength_7cf53 55 = .ok (.ldc 200, 2) := by decide +kernel
theorem dJ8_hugeLength_7cf53_57 : decode cJ8_hugeLength_7cf53 57 = .ok (.ireturn, 1) := by decide +kernel
theorem dJ8_hugeLength_7cf53_58 : decode cJ8_hugeLength_7cf53 58 = .ok (.iload_n 2, 1) := by decide +kernel
theorem dJ8_hugeLength_7cf53_59 : decode cJ8_hugeLength_7cf53 59 = .ok (.ireturn, 1) := by decide +kernel
theorem dJ3_checkIndex_8e157_0 : decode cJ3_checkIndex_8e157 0 = .ok (.iload_n 0, 1) := by decide +kernel
theorem dJ3_checkIndex_8e157_1 : decode cJ3_checkIndex_8e157 1 = .ok (.ifCond .lt 8, 3) := by decide +kernel
theorem dJ3_checkIndex_8e157_4 : decode cJ3_checkIndex_8e157 4 = .ok (.iload_n 0, 1) := by decide +kernel
theorem dJ3_checkIndex_8e157_5 : decode cJ3_checkIndex_8e157 5 = .ok (.iload_n 1, 1) := by decide +kernel
theorem dJ3_checkIndex_8e157_6 : decode cJ3_checkIndex_8e157 6 = .ok (.if_icmp .lt 10, 3) := by decide +kernel
theorem dJ3_checkIndex_8e157_9 : decode cJ3_checkIndex_8e157 9 = .ok (.aload_n 2, 1) := by decide +kernel
theorem dJ3_checkIndex_8e157_10 : decode cJ3_checkIndex_8e157 10 = .ok (.iload_n 0, 1) := by decide +kernel
theorem dJ3_checkIndex_8e157_11 : decode cJ3_checkIndex_8e157 11 = .ok (.iload_n 1, 1) := by decide +kernel
theorem dJ3_checkIndex_8e157_12 : decode cJ3_checkIndex_8e157 12 = .ok (.invokestatic 95, 3) := by decide +kernel
theorem dJ3_checkIndex_8e157_15 : decode cJ3_checkIndex_8e157 15 = .ok (.athrow, 1) := by decide +kernel
theorem dJ3_checkIndex_8e157_16 : decode cJ3_checkIndex_8e157 16 = .ok (.iload_n 0, 1) := by decide +kernel
theorem dJ3_checkIndex_8e157_17 : decode cJ3_checkIndex_8e157 17 = .ok (.ireturn, 1) := by decide +kernel
theorem dJ3_checkFromToIndex_8c36e_0 : decode cJ3_checkFromToIndex_8c36e 0 = .ok (.iload_n 0, 1) := by decide +kernel
theorem dJ3_checkFromToIndex_8c36e_1 : decode cJ3_checkFromToIndex_8c36e 1 = .ok (.ifCond .lt 13, 3) := by decide +kernel
theorem dJ3_checkFromToIndex_8c36e_4 : decode cJ3_checkFromToIndex_8c36e 4 = .ok (.iload_n 0, 1) := by decide +kernel
theorem dJ3_checkFromToIndex_8c36e_5 : decode cJ3_checkFromToIndex_8c36e 5 = .ok (.iload_n 1, 1) := by decide +kernel
theorem dJ3_checkFromToIndex_8c36e_6 : decode cJ3_checkFromToIndex_8c36e 6 = .ok (.if_icmp .gt 8, 3) := by decide +kernel
theorem dJ3_checkFromToIndex_8c36e_9 : decode cJ3_checkFromToIndex_8c36e 9 = .ok (.iload_n 1, 1) := by decide +kernel
theorem dJ3_checkFromToIndex_8c36e_10 : decode cJ3_checkFromToIndex_8c36e 10 = .ok (.iload_n 2, 1) := by decide +kernel
theorem dJ3_checkFromToIndex_8c36e_11 : decode cJ3_checkFromToIndex_8c36e 11 = .ok (.if_icmp .le 11, 3) := by decide +kernel
theorem dJ3_checkFromToIndex_8c36e_14 : decode cJ3_checkFromToIndex_8c36e 14 = .ok (.aload_n 3, 1) := by decide +kernel
theorem dJ3_checkFromToIndex_8c36e_15 : decode cJ3_checkFromToIndex_8c36e 15 = .ok (.iload_n 0, 1) := by decide +kernel
theorem dJ3_checkFromToIndex_8c36e_16 : decode cJ3_checkFromToIndex_8c36e 16 = .ok (.iload_n 1, 1) := by decide +kernel
theorem dJ3_checkFromToIndex_8c36e_17 : decode cJ3_checkFromToIndex_8c36e 17 = .ok (.iload_n 2, 1) := by decide +kernel
theorem dJ3_checkFromToIndex_8c36e_18 : decode cJ3_checkFromToIndex_8c36e 18 = .ok (.invokestatic 99, 3) := by decide +kernel
theorem dJ3_checkFromToIndex_8c36e_21 : decode cJ3_checkFromToIndex_8c36e 21 = .ok (.athrow, 1) := by decide +kernel
theorem dJ3_checkFromToIndex_8c36e_22 : decode cJ3_checkFromToIndex_8c36e 22 = .ok (.iload_n 0, 1) := by decide +kernel
theorem dJ3_checkFromToIndex_8c36e_23 : decode cJ3_checkFromToIndex_8c36e 23 = .ok (.ireturn, 1) := by decide +kernel
theorem dJ3_checkFromIndexSize_8c36e_0 : decode cJ3_checkFromIndexSize_8c36e 0 = .ok (.iload_n 2, 1) := by decide +kernel
theorem dJ3_checkFromIndexSize_8c36e_1 : decode cJ3_checkFromIndexSize_8c36e 1 = .ok (.iload_n 0, 1) := by decide +kernel
theorem dJ3_checkFromIndexSize_8c36e_2 : decode cJ3_checkFromIndexSize_8c36e 2 = .ok (.ior, 1) := by decide +kernel
theorem dJ3_checkFromIndexSize_8c36e_3 : decode cJ3_checkFromIndexSize_8c36e 3 = .ok (.iload_n 1, 1) := by decide +kernel
theorem dJ3_checkFromIndexSize_8c36e_4 : decode cJ3_checkFromIndexSize_8c36e 4 = .ok (.ior, 1) := by decide +kernel
theorem dJ3_checkFromIndexSize_8c36e_5 : decode cJ3_checkFromIndexSize_8c36e 5 = .ok (.ifCond .lt 10, 3) := by decide +kernel
theorem dJ3_checkFromIndexSize_8c36e_8 : decode cJ3_checkFromIndexSize_8c36e 8 = .ok (.iload_n 1, 1) := by decide +kernel
theorem dJ3_checkFromIndexSize_8c36e_9 : decode cJ3_checkFromIndexSize_8c36e 9 = .ok (.iload_n 2, 1) := by decide +kernel
theorem dJ3_checkFromIndexSize_8c36e_10 : decode cJ3_checkFromIndexSize_8c36e 10 = .ok (.iload_n 0, 1) := by decide +kernel
theorem dJ3_checkFromIndexSize_8c36e_11 : decode cJ3_checkFromIndexSize_8c36e 11 = .ok (.isub, 1) := by decide +kernel
theorem dJ3_checkFromIndexSize_8c36e_12 : decode cJ3_checkFromIndexSize_8c36e 12 = .ok (.if_icmp .le 11, 3) := by decide +kernel
theorem dJ3_checkFromIndexSize_8c36e_15 : decode cJ3_checkFromIndexSize_8c36e 15 = .ok (.aload_n 3, 1) := by decide +kernel
theorem dJ3_checkFromIndexSize_8c36e_16 : decode cJ3_checkFromIndexSize_8c36e 16 = .ok (.iload_n 0, 1) := by decide +kernel
theorem dJ3_checkFromIndexSize_8c36e_17 : decode cJ3_checkFromIndexSize_8c36e 17 = .ok (.iload_n 1, 1) := by decide +kernel
theorem dJ3_checkFromIndexSize_8c36e_18 : decode cJ3_checkFromIndexSize_8c36e 18 = .ok (.iload_n 2, 1) := by decide +kernel
theorem dJ3_checkFromIndexSize_8c36e_19 : decode cJ3_checkFromIndexSize_8c36e 19 = .ok (.invokestatic 103, 3) := by decide +kernel
theorem dJ3_checkFromIndexSize_8c36e_22 : decode cJ3_checkFromIndexSize_8c36e 22 = .ok (.athrow, 1) := by decide +kernel
theorem dJ3_checkFromIndexSize_8c36e_23 : decode cJ3_checkFromIndexSize_8c36e 23 = .ok (.iload_n 0, 1) := by decide +kernel
theorem dJ3_checkFromIndexSize_8c36e_24 : decode cJ3_checkFromIndexSize_8c36e 24 = .ok (.ireturn, 1) := by decide +kernel
theorem dL_cell_0 : decode cL_cell 0 = .ok (.aload_n 0, 1) := by decide +kernel
theorem dL_cell_1 : decode cL_cell 1 = .ok (.arraylength, 1) := by decide +kernel
theorem dL_cell_2 : decode cL_cell 2 = .ok (.ifCond .ne 7, 3) := by decide +kernel
theorem dL_cell_5 : decode cL_cell 5 = .ok (.iconst 0, 1) := by decide +kernel
theorem dL_cell_6 : decode cL_cell 6 = .ok (.goto 15, 3) := by decide +kernel
theorem dL_cell_9 : decode cL_cell 9 = .ok (.aload_n 0, 1) := by decide +kernel
theorem dL_cell_10 : decode cL_cell 10 = .ok (.iload_n 1, 1) := by decide +kernel
theorem dL_cell_11 : decode cL_cell 11 = .ok (.aload_n 0, 1) := by decide +kernel
theorem dL_cell_12 : decode cL_cell 12 = .ok (.arraylength, 1) := by decide +kernel
theorem dL_cell_13 : decode cL_cell 13 = .ok (.irem, 1) := by decide +kernel
theorem dL_cell_14 : decode cL_cell 14 = .ok (.iaload, 1) := by decide +kernel
theorem dL_cell_15 : decode cL_cell 15 = .ok (.ldc 7, 2) := by decide +kernel
theorem dL_cell_17 : decode cL_cell 17 = .ok (.irem, 1) := by decide +kernel
theorem dL_cell_18 : decode cL_cell 18 = .ok (.invokestatic 8, 3) := by decide +kernel
theorem dL_cell_21 : decode cL_cell 21 = .ok (.ireturn, 1) := by decide +kernel
theorem dL_load_0 : decode cL_load 0 = .ok (.lconst 0, 1) := by decide +kernel
theorem dL_load_1 : decode cL_load 1 = .ok (.lstore_n 2, 1) := by decide +kernel
theorem dL_load_2 : decode cL_load 2 = .ok (.iconst 0, 1) := by decide +kernel
theorem dL_load_3 : decode cL_load 3 = .ok (.istore 4, 2) := by decide +kernel
theorem dL_load_5 : decode cL_load 5 = .ok (.iload 4, 2) := by decide +kernel
theorem dL_load_7 : decode cL_load 7 = .ok (.aload_n 1, 1) := by decide +kernel
theorem dL_load_8 : decode cL_load 8 = .ok (.invokevirtual 14, 3) := by decide +kernel
theorem dL_load_11 : decode cL_load 11 = .ok (.if_icmp .ge 54, 3) := by decide +kernel
theorem dL_load_14 : decode cL_load 14 = .ok (.lload_n 2, 1) := by decide +kernel
theorem dL_load_15 : decode cL_load 15 = .ok (.bipush 8, 2) := by decide +kernel
theorem dL_load_17 : decode cL_load 17 = .ok (.lshl, 1) := by decide +kernel
theorem dL_load_18 : decode cL_load 18 = .ok (.aload_n 1, 1) := by decide +kernel
theorem dL_load_19 : decode cL_load 19 = .ok (.iload 4, 2) := by decide +kernel
theorem dL_load_21 : decode cL_load 21 = .ok (.invokevirtual 20, 3) := by decide +kernel
theorem dL_load_24 : decode cL_load 24 = .ok (.i2l, 1) := by decide +kernel
theorem dL_load_25 : decode cL_load 25 = .ok (.lor, 1) := by decide +kernel
theorem dL_load_26 : decode cL_load 26 = .ok (.lstore_n 2, 1) := by decide +kernel
theorem dL_load_27 : decode cL_load 27 = .ok (.iload 4, 2) := by decide +kernel
theorem dL_load_29 : decode cL_load 29 = .ok (.bipush 8, 2) := by decide +kernel
theorem dL_load_31 : decode cL_load 31 = .ok (.irem, 1) := by decide +kernel
theorem dL_load_32 : decode cL_load 32 = .ok (.bipush 7, 2) := by decide +kernel
theorem dL_load_34 : decode cL_load 34 = .ok (.if_icmp .eq 17, 3) := by decide +kernel
theorem dL_load_37 : decode cL_load 37 = .ok (.iload 4, 2) := by decide +kernel
theorem dL_load_39 : decode cL_load 39 = .ok (.aload_n 1, 1) := by decide +kernel
theorem dL_load_40 : decode cL_load 40 = .ok (.invokevirtual 14, 3) := by decide +kernel
theorem dL_load_43 : decode cL_load 43 = .ok (.iconst 1, 1) := by decide +kernel
theorem dL_load_44 : decode cL_load 44 = .ok (.isub, 1) := by decide +kernel
theorem dL_load_45 : decode cL_load 45 = .ok (.if_icmp .eq 6, 3) := by decide +kernel
theorem dL_load_48 : decode cL_load 48 = .ok (.goto 11, 3) := by decide +kernel
theorem dL_load_51 : decode cL_load 51 = .ok (.aload_n 0, 1) := by decide +kernel
theorem dL_load_52 : decode cL_load 52 = .ok (.lload_n 2, 1) := by decide +kernel
theorem dL_load_53 : decode cL_load 53 = .ok (.invokevirtual 24, 3) := by decide +kernel
theorem dL_load_56 : decode cL_load 56 = .ok (.pop, 1) := by decide +kernel
theorem dL_load_57 : decode cL_load 57 = .ok (.lconst 0, 1) := by decide +kernel
theorem dL_load_58 : decode cL_load 58 = .ok (.lstore_n 2, 1) := by decide +kernel
theorem dL_load_59 : decode cL_load 59 = .ok (.iinc 4 1, 3) := by decide +kernel
theorem dL_load_62 : decode cL_load 62 = .ok (.goto (-57), 3) := by decide +kernel
theorem dL_load_65 : decode cL_load 65 = .ok (.aload_n 0, 1) := by decide +kernel
theorem dL_load_66 : decode cL_load 66 = .ok (.invokevirtual 30, 3) := by decide +kernel
theorem dL_load_69 : decode cL_load 69 = .ok (.ireturn, 1) := by decide +kernel
theorem dL_start_0 : decode cL_start 0 = .ok (.iconst 2, 1) := by decide +kernel
theorem dL_start_1 : decode cL_start 1 = .ok (.aload_n 1, 1) := by decide +kernel
theorem dL_start_2 : decode cL_start 2 = .ok (.iconst 0, 1) := by decide +kernel
theorem dL_start_3 : decode cL_start 3 = .ok (.invokestatic 33, 3) := by decide +kernel
theorem dL_start_6 : decode cL_start 6 = .ok (.iconst 5, 1) := by decide +kernel
theorem dL_start_7 : decode cL_start 7 = .ok (.irem, 1) := by decide +kernel
theorem dL_start_8 : decode cL_start 8 = .ok (.iadd, 1) := by decide +kernel
theorem dL_start_9 : decode cL_start 9 = .ok (.istore_n 2, 1) := by decide +kernel
theorem dL_start_10 : decode cL_start 10 = .ok (.iload_n 2, 1) := by decide +kernel
theorem dL_start_11 : decode cL_start 11 = .ok (.iload_n 2, 1) := by decide +kernel
theorem dL_start_12 : decode cL_start 12 = .ok (.imul, 1) := by decide +kernel
theorem dL_start_13 : decode cL_start 13 = .ok (.newarray .boolean, 2) := by decide +kernel
theorem dL_start_15 : decode cL_start 15 = .ok (.astore_n 3, 1) := by decide +kernel
theorem dL_start_16 : decode cL_start 16 = .ok (.new 39, 3) := by decide +kernel
theorem dL_start_19 : decode cL_start 19 = .ok (.dup, 1) := by decide +kernel
theorem dL_start_20 : decode cL_start 20 = .ok (.ldc 41, 2) := by decide +kernel
theorem dL_start_22 : decode cL_start 22 = .ok (.invokespecial 43, 3) := by decide +kernel
theorem dL_start_25 : decode cL_start 25 = .ok (.iload_n 2, 1) := by decide +kernel
theorem dL_start_26 : decode cL_start 26 = .ok (.invokevirtual 46, 3) := by decide +kernel
theorem dL_start_29 : decode cL_start 29 = .ok (.aload_n 1, 1) := by decide +kernel
theorem dL_start_30 : decode cL_start 30 = .ok (.iconst 1, 1) := by decide +kernel
theorem dL_start_31 : decode cL_start 31 = .ok (.invokestatic 33, 3) := by decide +kernel
theorem dL_start_34 : decode cL_start 34 = .ok (.iconst 2, 1) := by decide +kernel
theorem dL_start_35 : decode cL_start 35 = .ok (.irem, 1) := by decide +kernel
theorem dL_start_36 : decode cL_start 36 = .ok (.ifCond .ne 8, 3) := by decide +kernel
theorem dL_start_39 : decode cL_start 39 = .ok (.ldc 49, 2) := by decide +kernel
theorem dL_start_41 : decode cL_start 41 = .ok (.goto 5, 3) := by decide +kernel
theorem dL_start_44 : decode cL_start 44 = .ok (.ldc 51, 2) := by decide +kernel
theorem dL_start_46 : decode cL_start 46 = .ok (.invokevirtual 53, 3) := by decide +kernel
theorem dL_start_49 : decode cL_start 49 = .ok (.astore 4, 2) := by decide +kernel
theorem dL_start_51 : decode cL_start 51 = .ok (.iconst 0, 1) := by decide +kernel
theorem dL_start_52 : decode cL_start 52 = .ok (.istore 5, 2) := by decide +kernel
theorem dL_start_54 : decode cL_start 54 = .ok (.iload 5, 2) := by decide +kernel
theorem dL_start_56 : decode cL_start 56 = .ok (.iconst 2, 1) := by decide +kernel
theorem dL_start_57 : decode cL_start 57 = .ok (.if_icmp .ge 123, 3) := by decide +kernel
theorem dL_start_60 : decode cL_start 60 = .ok (.iconst 1, 1) := by decide +kernel
theorem dL_start_61 : decode cL_start 61 = .ok (.istore 6, 2) := by decide +kernel
theorem dL_start_63 : decode cL_start 63 = .ok (.iconst 0, 1) := by decide +kernel
theorem dL_start_64 : decode cL_start 64 = .ok (.istore 7, 2) := by decide +kernel
theorem dL_start_66 : decode cL_start 66 = .ok (.iload 7, 2) := by decide +kernel
theorem dL_start_68 : decode cL_start 68 = .ok (.aload_n 1, 1) := by decide +kernel
theorem dL_start_69 : decode cL_start 69 = .ok (.iconst 2, 1) := by decide +kernel
theorem dL_start_70 : decode cL_start 70 = .ok (.invokestatic 33, 3) := by decide +kernel
theorem dL_start_73 : decode cL_start 73 = .ok (.bipush 8, 2) := by decide +kernel
theorem dL_start_75 : decode cL_start 75 = .ok (.irem, 1) := by decide +kernel
theorem dL_start_76 : decode cL_start 76 = .ok (.if_icmp .ge 98, 3) := by decide +kernel
theorem dL_start_79 : decode cL_start 79 = .ok (.aload_n 1, 1) := by decide +kernel
theorem dL_start_80 : decode cL_start 80 = .ok (.iconst 3, 1) := by decide +kernel
theorem dL_start_81 : decode cL_start 81 = .ok (.bipush 9, 2) := by decide +kernel
theorem dL_start_83 : decode cL_start 83 = .ok (.iload 5, 2) := by decide +kernel
theorem dL_start_85 : decode cL_start 85 = .ok (.imul, 1) := by decide +kernel
theorem dL_start_86 : decode cL_start 86 = .ok (.iadd, 1) := by decide +kernel
theorem dL_start_87 : decode cL_start 87 = .ok (.iload 7, 2) := by decide +kernel
theorem dL_start_89 : decode cL_start 89 = .ok (.iadd, 1) := by decide +kernel
theorem dL_start_90 : decode cL_start 90 = .ok (.invokestatic 33, 3) := by decide +kernel
theorem dL_start_93 : decode cL_start 93 = .ok (.iload_n 2, 1) := by decide +kernel
theorem dL_start_94 : decode cL_start 94 = .ok (.iload_n 2, 1) := by decide +kernel
theorem dL_start_95 : decode cL_start 95 = .ok (.imul, 1) := by decide +kernel
theorem dL_start_96 : decode cL_start 96 = .ok (.irem, 1) := by decide +kernel
theorem dL_start_97 : decode cL_start 97 = .ok (.istore 8, 2) := by decide +kernel
theorem dL_start_99 : decode cL_start 99 = .ok (.aload_n 3, 1) := by decide +kernel
theorem dL_start_100 : decode cL_start 100 = .ok (.iload 8, 2) := by decide +kernel
theorem dL_start_102 : decode cL_start 102 = .ok (.baload, 1) := by decide +kernel
theorem dL_start_103 : decode cL_start 103 = .ok (.ifCond .eq 6, 3) := by decide +kernel
theorem dL_start_106 : decode cL_start 106 = .ok (.goto 62, 3) := by decide +kernel
theorem dL_start_109 : decode cL_start 109 = .ok (.aload_n 3, 1) := by decide +kernel
theorem dL_start_110 : decode cL_start 110 = .ok (.iload 8, 2) := by decide +kernel
theorem dL_start_112 : decode cL_start 112 = .ok (.iconst 1, 1) := by decide +kernel
theorem dL_start_113 : decode cL_start 113 = .ok (.bastore, 1) := by decide +kernel
theorem dL_start_114 : decode cL_start 114 = .ok (.iload 6, 2) := by decide +kernel
theorem dL_start_116 : decode cL_start 116 = .ok (.ifCond .eq 21, 3) := by decide +kernel
theorem dL_start_119 : decode cL_start 119 = .ok (.aload 4, 2) := by decide +kernel
theorem dL_start_121 : decode cL_start 121 = .ok (.iload 5, 2) := by decide +kernel
theorem dL_start_123 : decode cL_start 123 = .ok (.ifCond .ne 8, 3) := by decide +kernel
theorem dL_start_126 : decode cL_start 126 = .ok (.ldc 56, 2) := by decide +kernel
theorem dL_start_128 : decode cL_start 128 = .ok (.goto 5, 3) := by decide +kernel
theorem dL_start_131 : decode cL_start 131 = .ok (.ldc 58, 2) := by decide +kernel
theorem dL_start_133 : decode cL_start 133 = .ok (.invokevirtual 53, 3) := by decide +kernel
theorem dL_start_136 : decode cL_start 136 = .ok (.pop, 1) := by decide +kernel
theorem dL_start_137 : decode cL_start 137 = .ok (.iconst 0, 1) := by decide +kernel
theorem dL_start_138 : decode cL_start 138 = .ok (.istore 6, 2) := by decide +kernel
theorem dL_start_140 : decode cL_start 140 = .ok (.aload 4, 2) := by decide +kernel
theorem dL_start_142 : decode cL_start 142 = .ok (.bipush 32, 2) := by decide +kernel
theorem dL_start_144 : decode cL_start 144 = .ok (.invokevirtual 60, 3) := by decide +kernel
theorem dL_start_147 : decode cL_start 147 = .ok (.bipush 97, 2) := by decide +kernel
theorem dL_start_149 : decode cL_start 149 = .ok (.iload 8, 2) := by decide +kernel
theorem dL_start_151 : decode cL_start 151 = .ok (.iload_n 2, 1) := by decide +kernel
theorem dL_start_152 : decode cL_start 152 = .ok (.irem, 1) := by decide +kernel
theorem dL_start_153 : decode cL_start 153 = .ok (.iadd, 1) := by decide +kernel
theorem dL_start_154 : decode cL_start 154 = .ok (.i2c, 1) := by decide +kernel
theorem dL_start_155 : decode cL_start 155 = .ok (.invokevirtual 60, 3) := by decide +kernel
theorem dL_start_158 : decode cL_start 158 = .ok (.iload 8, 2) := by decide +kernel
theorem dL_start_160 : decode cL_start 160 = .ok (.iload_n 2, 1) := by decide +kernel
theorem dL_start_161 : decode cL_start 161 = .ok (.idiv, 1) := by decide +kernel
theorem dL_start_162 : decode cL_start 162 = .ok (.iconst 1, 1) := by decide +kernel
theorem dL_start_163 : decode cL_start 163 = .ok (.iadd, 1) := by decide +kernel
theorem dL_start_164 : decode cL_start 164 = .ok (.invokevirtual 46, 3) := by decide +kernel
theorem dL_start_167 : decode cL_start 167 = .ok (.pop, 1) := by decide +kernel
theorem dL_start_168 : decode cL_start 168 = .ok (.iinc 7 1, 3) := by decide +kernel
theorem dL_start_171 : decode cL_start 171 = .ok (.goto (-105), 3) := by decide +kernel
theorem dL_start_174 : decode cL_start 174 = .ok (.iinc 5 1, 3) := by decide +kernel
theorem dL_start_177 : decode cL_start 177 = .ok (.goto (-123), 3) := by decide +kernel
theorem dL_start_180 : decode cL_start 180 = .ok (.aload_n 0, 1) := by decide +kernel
theorem dL_start_181 : decode cL_start 181 = .ok (.aload 4, 2) := by decide +kernel
theorem dL_start_183 : decode cL_start 183 = .ok (.aload_n 1, 1) := by decide +kernel
theorem dL_start_184 : decode cL_start 184 = .ok (.bipush 21, 2) := by decide +kernel
theorem dL_start_186 : decode cL_start 186 = .ok (.invokestatic 33, 3) := by decide +kernel
theorem dL_start_189 : decode cL_start 189 = .ok (.iconst 2, 1) := by decide +kernel
theorem dL_start_190 : decode cL_start 190 = .ok (.irem, 1) := by decide +kernel
theorem dL_start_191 : decode cL_start 191 = .ok (.ifCond .ne 8, 3) := by decide +kernel
theorem dL_start_194 : decode cL_start 194 = .ok (.ldc 63, 2) := by decide +kernel
theorem dL_start_196 : decode cL_start 196 = .ok (.goto 5, 3) := by decide +kernel
theorem dL_start_199 : decode cL_start 199 = .ok (.ldc 65, 2) := by decide +kernel
theorem dL_start_201 : decode cL_start 201 = .ok (.invokevirtual 53, 3) := by decide +kernel
theorem dL_start_204 : decode cL_start 204 = .ok (.invokevirtual 67, 3) := by decide +kernel
theorem dL_start_207 : decode cL_start 207 = .ok (.invokestatic 71, 3) := by decide +kernel
theorem dL_start_210 : decode cL_start 210 = .ok (.ireturn, 1) := by decide +kernel
theorem dL_step_0 : decode cL_step 0 = .ok (.aload_n 1, 1) := by decide +kernel
theorem dL_step_1 : decode cL_step 1 = .ok (.iload_n 2, 1) := by decide +kernel
theorem dL_step_2 : decode cL_step 2 = .ok (.iconst 1, 1) := by decide +kernel
theorem dL_step_3 : decode cL_step 3 = .ok (.iadd, 1) := by decide +kernel
theorem dL_step_4 : decode cL_step 4 = .ok (.invokestatic 33, 3) := by decide +kernel
theorem dL_step_7 : decode cL_step 7 = .ok (.istore_n 3, 1) := by decide +kernel
theorem dL_step_8 : decode cL_step 8 = .ok (.aload_n 1, 1) := by decide +kernel
theorem dL_step_9 : decode cL_step 9 = .ok (.iload_n 2, 1) := by decide +kernel
theorem dL_step_10 : decode cL_step 10 = .ok (.iconst 2, 1) := by decide +kernel
theorem dL_step_11 : decode cL_step 11 = .ok (.iadd, 1) := by decide +kernel
theorem dL_step_12 : decode cL_step 12 = .ok (.invokestatic 33, 3) := by decide +kernel
theorem dL_step_15 : decode cL_step 15 = .ok (.istore 4, 2) := by decide +kernel
theorem dL_step_17 : decode cL_step 17 = .ok (.aload_n 0, 1) := by decide +kernel
theorem dL_step_18 : decode cL_step 18 = .ok (.iconst 0, 1) := by decide +kernel
theorem dL_step_19 : decode cL_step 19 = .ok (.invokevirtual 74, 3) := by decide +kernel
theorem dL_step_22 : decode cL_step 22 = .ok (.aload_n 0, 1) := by decide +kernel
theorem dL_step_23 : decode cL_step 23 = .ok (.iconst 0, 1) := by decide +kernel
theorem dL_step_24 : decode cL_step 24 = .ok (.invokevirtual 74, 3) := by decide +kernel
theorem dL_step_27 : decode cL_step 27 = .ok (.imul, 1) := by decide +kernel
theorem dL_step_28 : decode cL_step 28 = .ok (.istore 5, 2) := by decide +kernel
theorem dL_step_30 : decode cL_step 30 = .ok (.aload_n 1, 1) := by decide +kernel
theorem dL_step_31 : decode cL_step 31 = .ok (.iload_n 2, 1) := by decide +kernel
theorem dL_step_32 : decode cL_step 32 = .ok (.invokestatic 33, 3) := by decide +kernel
theorem dL_step_35 : decode cL_step 35 = .ok (.bipush 12, 2) := by decide +kernel
theorem dL_step_37 : decode cL_step 37 = .ok (.irem, 1) := by decide +kernel
theorem dL_step_38 : decode cL_step 38 = .ok (.tableswitch 158 0 10 #[58, 58, 58, 58, 58, 70, 88, 100, 108, 116, 130], 58) := by decide +kernel
theorem dL_step_96 : decode cL_step 96 = .ok (.aload_n 0, 1) := by decide +kernel
theorem dL_step_97 : decode cL_step 97 = .ok (.iload_n 3, 1) := by decide +kernel
theorem dL_step_98 : decode cL_step 98 = .ok (.iload 5, 2) := by decide +kernel
theorem dL_step_100 : decode cL_step 100 = .ok (.irem, 1) := by decide +kernel
theorem dL_step_101 : decode cL_step 101 = .ok (.invokevirtual 77, 3) := by decide +kernel
theorem dL_step_104 : decode cL_step 104 = .ok (.pop, 1) := by decide +kernel
theorem dL_step_105 : decode cL_step 105 = .ok (.goto 96, 3) := by decide +kernel
theorem dL_step_108 : decode cL_step 108 = .ok (.aload_n 0, 1) := by decide +kernel
theorem dL_step_109 : decode cL_step 109 = .ok (.iload_n 3, 1) := by decide +kernel
theorem dL_step_110 : decode cL_step 110 = .ok (.iload 5, 2) := by decide +kernel
theorem dL_step_112 : decode cL_step 112 = .ok (.irem, 1) := by decide +kernel
theorem dL_step_113 : decode cL_step 113 = .ok (.iload 4, 2) := by decide +kernel
theorem dL_step_115 : decode cL_step 115 = .ok (.iconst 3, 1) := by decide +kernel
theorem dL_step_116 : decode cL_step 116 = .ok (.irem, 1) := by decide +kernel
theorem dL_step_117 : decode cL_step 117 = .ok (.iconst 1, 1) := by decide +kernel
theorem dL_step_118 : decode cL_step 118 = .ok (.isub, 1) := by decide +kernel
theorem dL_step_119 : decode cL_step 119 = .ok (.invokevirtual 80, 3) := by decide +kernel
theorem dL_step_122 : decode cL_step 122 = .ok (.pop, 1) := by decide +kernel
theorem dL_step_123 : decode cL_step 123 = .ok (.goto 78, 3) := by decide +kernel
theorem dL_step_126 : decode cL_step 126 = .ok (.aload_n 0, 1) := by decide +kernel
theorem dL_step_127 : decode cL_step 127 = .ok (.iload 4, 2) := by decide +kernel
theorem dL_step_129 : decode cL_step 129 = .ok (.iconst 2, 1) := by decide +kernel
theorem dL_step_130 : decode cL_step 130 = .ok (.irem, 1) := by decide +kernel
theorem dL_step_131 : decode cL_step 131 = .ok (.invokevirtual 84, 3) := by decide +kernel
theorem dL_step_134 : decode cL_step 134 = .ok (.pop, 1) := by decide +kernel
theorem dL_step_135 : decode cL_step 135 = .ok (.goto 66, 3) := by decide +kernel
theorem dL_step_138 : decode cL_step 138 = .ok (.aload_n 0, 1) := by decide +kernel
theorem dL_step_139 : decode cL_step 139 = .ok (.invokevirtual 87, 3) := by decide +kernel
theorem dL_step_142 : decode cL_step 142 = .ok (.pop, 1) := by decide +kernel
theorem dL_step_143 : decode cL_step 143 = .ok (.goto 58, 3) := by decide +kernel
theorem dL_step_146 : decode cL_step 146 = .ok (.aload_n 0, 1) := by decide +kernel
theorem dL_step_147 : decode cL_step 147 = .ok (.invokevirtual 90, 3) := by decide +kernel
theorem dL_step_150 : decode cL_step 150 = .ok (.pop, 1) := by decide +kernel
theorem dL_step_151 : decode cL_step 151 = .ok (.goto 50, 3) := by decide +kernel
theorem dL_step_154 : decode cL_step 154 = .ok (.aload_n 0, 1) := by decide +kernel
theorem dL_step_155 : decode cL_step 155 = .ok (.iconst 1, 1) := by decide +kernel
theorem dL_step_156 : decode cL_step 156 = .ok (.iload 4, 2) := by decide +kernel
theorem dL_step_158 : decode cL_step 158 = .ok (.iconst 3, 1) := by decide +kernel
theorem dL_step_159 : decode cL_step 159 = .ok (.irem, 1) := by decide +kernel
theorem dL_step_160 : decode cL_step 160 = .ok (.iadd, 1) := by decide +kernel
theorem dL_step_161 : decode cL_step 161 = .ok (.invokevirtual 93, 3) := by decide +kernel
theorem dL_step_164 : decode cL_step 164 = .ok (.pop, 1) := by decide +kernel
theorem dL_step_165 : decode cL_step 165 = .ok (.goto 36, 3) := by decide +kernel
theorem dL_step_168 : decode cL_step 168 = .ok (.iload 4, 2) := by decide +kernel
theorem dL_step_170 : decode cL_step 170 = .ok (.iconst 5, 1) := by decide +kernel
theorem dL_step_171 : decode cL_step 171 = .ok (.irem, 1) := by decide +kernel
theorem dL_step_172 : decode cL_step 172 = .ok (.ifCond .ne 11, 3) := by decide +kernel
theorem dL_step_175 : decode cL_step 175 = .ok (.aload_n 0, 1) := by decide +kernel
theorem dL_step_176 : decode cL_step 176 = .ok (.invokevirtual 96, 3) := by decide +kernel
theorem dL_step_179 : decode cL_step 179 = .ok (.pop, 1) := by decide +kernel
theorem dL_step_180 : decode cL_step 180 = .ok (.goto 21, 3) := by decide +kernel
theorem dL_step_183 : decode cL_step 183 = .ok (.aload_n 0, 1) := by decide +kernel
theorem dL_step_184 : decode cL_step 184 = .ok (.iload 4, 2) := by decide +kernel
theorem dL_step_186 : decode cL_step 186 = .ok (.iload 5, 2) := by decide +kernel
theorem dL_step_188 : decode cL_step 188 = .ok (.irem, 1) := by decide +kernel
theorem dL_step_189 : decode cL_step 189 = .ok (.invokevirtual 77, 3) := by decide +kernel
theorem dL_step_192 : decode cL_step 192 = .ok (.pop, 1) := by decide +kernel
theorem dL_step_193 : decode cL_step 193 = .ok (.goto 8, 3) := by decide +kernel
theorem dL_step_196 : decode cL_step 196 = .ok (.aload_n 0, 1) := by decide +kernel
theorem dL_step_197 : decode cL_step 197 = .ok (.invokevirtual 99, 3) := by decide +kernel
theorem dL_step_200 : decode cL_step 200 = .ok (.pop, 1) := by decide +kernel
theorem dL_step_201 : decode cL_step 201 = .ok (.return_, 1) := by decide +kernel
theorem dL_whole_0 : decode cL_whole 0 = .ok (.aload_n 0, 1) := by decide +kernel
theorem dL_whole_1 : decode cL_whole 1 = .ok (.iconst 0, 1) := by decide +kernel
theorem dL_whole_2 : decode cL_whole 2 = .ok (.invokevirtual 102, 3) := by decide +kernel
theorem dL_whole_5 : decode cL_whole 5 = .ok (.i2l, 1) := by decide +kernel
theorem dL_whole_6 : decode cL_whole 6 = .ok (.lstore_n 1, 1) := by decide +kernel
theorem dL_whole_7 : decode cL_whole 7 = .ok (.iconst 0, 1) := by decide +kernel
theorem dL_whole_8 : decode cL_whole 8 = .ok (.istore_n 3, 1) := by decide +kernel
theorem dL_whole_9 : decode cL_whole 9 = .ok (.iload_n 3, 1) := by decide +kernel
theorem dL_whole_10 : decode cL_whole 10 = .ok (.bipush 8, 2) := by decide +kernel
theorem dL_whole_12 : decode cL_whole 12 = .ok (.if_icmp .gt 22, 3) := by decide +kernel
theorem dL_whole_15 : decode cL_whole 15 = .ok (.ldc2_w 105, 3) := by decide +kernel
theorem dL_whole_18 : decode cL_whole 18 = .ok (.lload_n 1, 1) := by decide +kernel
theorem dL_whole_19 : decode cL_whole 19 = .ok (.lmul, 1) := by decide +kernel
theorem dL_whole_20 : decode cL_whole 20 = .ok (.aload_n 0, 1) := by decide +kernel
theorem dL_whole_21 : decode cL_whole 21 = .ok (.iload_n 3, 1) := by decide +kernel
theorem dL_whole_22 : decode cL_whole 22 = .ok (.invokevirtual 74, 3) := by decide +kernel
theorem dL_whole_25 : decode cL_whole 25 = .ok (.i2l, 1) := by decide +kernel
theorem dL_whole_26 : decode cL_whole 26 = .ok (.ladd, 1) := by decide +kernel
theorem dL_whole_27 : decode cL_whole 27 = .ok (.lstore_n 1, 1) := by decide +kernel
theorem dL_whole_28 : decode cL_whole 28 = .ok (.iinc 3 1, 3) := by decide +kernel
theorem dL_whole_31 : decode cL_whole 31 = .ok (.goto (-22), 3) := by decide +kernel
theorem dL_whole_34 : decode cL_whole 34 = .ok (.iconst 0, 1) := by decide +kernel
theorem dL_whole_35 : decode cL_whole 35 = .ok (.istore_n 3, 1) := by decide +kernel
theorem dL_whole_36 : decode cL_whole 36 = .ok (.iload_n 3, 1) := by decide +kernel
theorem dL_whole_37 : decode cL_whole 37 = .ok (.aload_n 0, 1) := by decide +kernel
theorem dL_whole_38 : decode cL_whole 38 = .ok (.iconst 0, 1) := by decide +kernel
theorem dL_whole_39 : decode cL_whole 39 = .ok (.invokevirtual 74, 3) := by decide +kernel
theorem dL_whole_42 : decode cL_whole 42 = .ok (.aload_n 0, 1) := by decide +kernel
theorem dL_whole_43 : decode cL_whole 43 = .ok (.iconst 0, 1) := by decide +kernel
theorem dL_whole_44 : decode cL_whole 44 = .ok (.invokevirtual 74, 3) := by decide +kernel
theorem dL_whole_47 : decode cL_whole 47 = .ok (.imul, 1) := by decide +kernel
theorem dL_whole_48 : decode cL_whole 48 = .ok (.if_icmp .ge 22, 3) := by decide +kernel
theorem dL_whole_51 : decode cL_whole 51 = .ok (.ldc2_w 105, 3) := by decide +kernel
theorem dL_whole_54 : decode cL_whole 54 = .ok (.lload_n 1, 1) := by decide +kernel
theorem dL_whole_55 : decode cL_whole 55 = .ok (.lmul, 1) := by decide +kernel
theorem dL_whole_56 : decode cL_whole 56 = .ok (.aload_n 0, 1) := by decide +kernel
theorem dL_whole_57 : decode cL_whole 57 = .ok (.iload_n 3, 1) := by decide +kernel
theorem dL_whole_58 : decode cL_whole 58 = .ok (.invokevirtual 107, 3) := by decide +kernel
theorem dL_whole_61 : decode cL_whole 61 = .ok (.i2l, 1) := by decide +kernel
theorem dL_whole_62 : decode cL_whole 62 = .ok (.ladd, 1) := by decide +kernel
theorem dL_whole_63 : decode cL_whole 63 = .ok (.lstore_n 1, 1) := by decide +kernel
theorem dL_whole_64 : decode cL_whole 64 = .ok (.iinc 3 1, 3) := by decide +kernel
theorem dL_whole_67 : decode cL_whole 67 = .ok (.goto (-31), 3) := by decide +kernel
theorem dL_whole_70 : decode cL_whole 70 = .ok (.iconst 0, 1) := by decide +kernel
theorem dL_whole_71 : decode cL_whole 71 = .ok (.istore_n 3, 1) := by decide +kernel
theorem dL_whole_72 : decode cL_whole 72 = .ok (.iload_n 3, 1) := by decide +kernel
theorem dL_whole_73 : decode cL_whole 73 = .ok (.aload_n 0, 1) := by decide +kernel
theorem dL_whole_74 : decode cL_whole 74 = .ok (.iconst 4, 1) := by decide +kernel
theorem dL_whole_75 : decode cL_whole 75 = .ok (.invokevirtual 74, 3) := by decide +kernel
theorem dL_whole_78 : decode cL_whole 78 = .ok (.if_icmp .ge 22, 3) := by decide +kernel
theorem dL_whole_81 : decode cL_whole 81 = .ok (.ldc2_w 105, 3) := by decide +kernel
theorem dL_whole_84 : decode cL_whole 84 = .ok (.lload_n 1, 1) := by decide +kernel
theorem dL_whole_85 : decode cL_whole 85 = .ok (.lmul, 1) := by decide +kernel
theorem dL_whole_86 : decode cL_whole 86 = .ok (.aload_n 0, 1) := by decide +kernel
theorem dL_whole_87 : decode cL_whole 87 = .ok (.iload_n 3, 1) := by decide +kernel
theorem dL_whole_88 : decode cL_whole 88 = .ok (.invokevirtual 102, 3) := by decide +kernel
theorem dL_whole_91 : decode cL_whole 91 = .ok (.i2l, 1) := by decide +kernel
theorem dL_whole_92 : decode cL_whole 92 = .ok (.ladd, 1) := by decide +kernel
theorem dL_whole_93 : decode cL_whole 93 = .ok (.lstore_n 1, 1) := by decide +kernel
theorem dL_whole_94 : decode cL_whole 94 = .ok (.iinc 3 1, 3) := by decide +kernel
theorem dL_whole_97 : decode cL_whole 97 = .ok (.goto (-25), 3) := by decide +kernel
theorem dL_whole_100 : decode cL_whole 100 = .ok (.lload_n 1, 1) := by decide +kernel
theorem dL_whole_101 : decode cL_whole 101 = .ok (.lreturn, 1) := by decide +kernel
theorem dL_groups_0 : decode cL_groups 0 = .ok (.iconst 0, 1) := by decide +kernel
theorem dL_groups_1 : decode cL_groups 1 = .ok (.istore_n 2, 1) := by decide +kernel
theorem dL_groups_2 : decode cL_groups 2 = .ok (.iconst 0, 1) := by decide +kernel
theorem dL_groups_3 : decode cL_groups 3 = .ok (.istore_n 3, 1) := by decide +kernel
theorem dL_groups_4 : decode cL_groups 4 = .ok (.iconst 0, 1) := by decide +kernel
theorem dL_groups_5 : decode cL_groups 5 = .ok (.istore 4, 2) := by decide +kernel
theorem dL_groups_7 : decode cL_groups 7 = .ok (.iconst 0, 1) := by decide +kernel
theorem dL_groups_8 : decode cL_groups 8 = .ok (.istore 5, 2) := by decide +kernel
theorem dL_groups_10 : decode cL_groups 10 = .ok (.iconst 0, 1) := by decide +kernel
theorem dL_groups_11 : decode cL_groups 11 = .ok (.istore 6, 2) := by decide +kernel
theorem dL_groups_13 : decode cL_groups 13 = .ok (.iconst 0, 1) := by decide +kernel
theorem dL_groups_14 : decode cL_groups 14 = .ok (.istore 7, 2) := by decide +kernel
theorem dL_groups_16 : decode cL_groups 16 = .ok (.iconst 0, 1) := by decide +kernel
theorem dL_groups_17 : decode cL_groups 17 = .ok (.istore 8, 2) := by decide +kernel
theorem dL_groups_19 : decode cL_groups 19 = .ok (.iconst 0, 1) := by decide +kernel
theorem dL_groups_20 : decode cL_groups 20 = .ok (.istore 9, 2) := by decide +kernel
theorem dL_groups_22 : decode cL_groups 22 = .ok (.iload 9, 2) := by decide +kernel
theorem dL_groups_24 : decode cL_groups 24 = .ok (.aload_n 0, 1) := by decide +kernel
theorem dL_groups_25 : decode cL_groups 25 = .ok (.iconst 0, 1) := by decide +kernel
theorem dL_groups_26 : decode cL_groups 26 = .ok (.invokevirtual 74, 3) := by decide +kernel
theorem dL_groups_29 : decode cL_groups 29 = .ok (.aload_n 0, 1) := by decide +kernel
theorem dL_groups_30 : decode cL_groups 30 = .ok (.iconst 0, 1) := by decide +kernel
theorem dL_groups_31 : decode cL_groups 31 = .ok (.invokevirtual 74, 3) := by decide +kernel
theorem dL_groups_34 : decode cL_groups 34 = .ok (.imul, 1) := by decide +kernel
theorem dL_groups_35 : decode cL_groups 35 = .ok (.if_icmp .ge 275, 3) := by decide +kernel
theorem dL_groups_38 : decode cL_groups 38 = .ok (.aload_n 0, 1) := by decide +kernel
theorem dL_groups_39 : decode cL_groups 39 = .ok (.iload 9, 2) := by decide +kernel
theorem dL_groups_41 : decode cL_groups 41 = .ok (.invokevirtual 107, 3) := by decide +kernel
theorem dL_groups_44 : decode cL_groups 44 = .ok (.iload_n 1, 1) := by decide +kernel
theorem dL_groups_45 : decode cL_groups 45 = .ok (.if_icmp .eq 6, 3) := by decide +kernel
theorem dL_groups_48 : decode cL_groups 48 = .ok (.goto 256, 3) := by decide +kernel
theorem dL_groups_51 : decode cL_groups 51 = .ok (.iinc 2 1, 3) := by decide +kernel
theorem dL_groups_54 : decode cL_groups 54 = .ok (.aload_n 0, 1) := by decide +kernel
theorem dL_groups_55 : decode cL_groups 55 = .ok (.iload 9, 2) := by decide +kernel
theorem dL_groups_57 : decode cL_groups 57 = .ok (.iconst 0, 1) := by decide +kernel
theorem dL_groups_58 : decode cL_groups 58 = .ok (.invokevirtual 109, 3) := by decide +kernel
theorem dL_groups_61 : decode cL_groups 61 = .ok (.istore 10, 2) := by decide +kernel
theorem dL_groups_63 : decode cL_groups 63 = .ok (.iload 10, 2) := by decide +kernel
theorem dL_groups_65 : decode cL_groups 65 = .ok (.iload 9, 2) := by decide +kernel
theorem dL_groups_67 : decode cL_groups 67 = .ok (.if_icmp .gt 76, 3) := by decide +kernel
theorem dL_groups_70 : decode cL_groups 70 = .ok (.aload_n 0, 1) := by decide +kernel
theorem dL_groups_71 : decode cL_groups 71 = .ok (.iload 10, 2) := by decide +kernel
theorem dL_groups_73 : decode cL_groups 73 = .ok (.invokevirtual 107, 3) := by decide +kernel
theorem dL_groups_76 : decode cL_groups 76 = .ok (.iload_n 1, 1) := by decide +kernel
theorem dL_groups_77 : decode cL_groups 77 = .ok (.if_icmp .ne 66, 3) := by decide +kernel
theorem dL_groups_80 : decode cL_groups 80 = .ok (.aload_n 0, 1) := by decide +kernel
theorem dL_groups_81 : decode cL_groups 81 = .ok (.iload 10, 2) := by decide +kernel
theorem dL_groups_83 : decode cL_groups 83 = .ok (.iconst 1, 1) := by decide +kernel
theorem dL_groups_84 : decode cL_groups 84 = .ok (.invokevirtual 109, 3) := by decide +kernel
theorem dL_groups_87 : decode cL_groups 87 = .ok (.aload_n 0, 1) := by decide +kernel
theorem dL_groups_88 : decode cL_groups 88 = .ok (.iload 9, 2) := by decide +kernel
theorem dL_groups_90 : decode cL_groups 90 = .ok (.iconst 1, 1) := by decide +kernel
theorem dL_groups_91 : decode cL_groups 91 = .ok (.invokevirtual 109, 3) := by decide +kernel
theorem dL_groups_94 : decode cL_groups 94 = .ok (.if_icmp .ne 49, 3) := by decide +kernel
theorem dL_groups_97 : decode cL_groups 97 = .ok (.aload_n 0, 1) := by decide +kernel
theorem dL_groups_98 : decode cL_groups 98 = .ok (.iload 9, 2) := by decide +kernel
theorem dL_groups_100 : decode cL_groups 100 = .ok (.iconst 0, 1) := by decide +kernel
theorem dL_groups_101 : decode cL_groups 101 = .ok (.invokevirtual 112, 3) := by decide +kernel
theorem dL_groups_104 : decode cL_groups 104 = .ok (.iload 10, 2) := by decide +kernel
theorem dL_groups_106 : decode cL_groups 106 = .ok (.if_icmp .gt 37, 3) := by decide +kernel
theorem dL_groups_109 : decode cL_groups 109 = .ok (.aload_n 0, 1) := by decide +kernel
theorem dL_groups_110 : decode cL_groups 110 = .ok (.iload 9, 2) := by decide +kernel
theorem dL_groups_112 : decode cL_groups 112 = .ok (.iconst 0, 1) := by decide +kernel
theorem dL_groups_113 : decode cL_groups 113 = .ok (.invokevirtual 112, 3) := by decide +kernel
theorem dL_groups_116 : decode cL_groups 116 = .ok (.aload_n 0, 1) := by decide +kernel
theorem dL_groups_117 : decode cL_groups 117 = .ok (.iload 10, 2) := by decide +kernel
theorem dL_groups_119 : decode cL_groups 119 = .ok (.iconst 0, 1) := by decide +kernel
theorem dL_groups_120 : decode cL_groups 120 = .ok (.invokevirtual 112, 3) := by decide +kernel
theorem dL_groups_123 : decode cL_groups 123 = .ok (.if_icmp .ne 20, 3) := by decide +kernel
theorem dL_groups_126 : decode cL_groups 126 = .ok (.aload_n 0, 1) := by decide +kernel
theorem dL_groups_127 : decode cL_groups 127 = .ok (.iload 9, 2) := by decide +kernel
theorem dL_groups_129 : decode cL_groups 129 = .ok (.iconst 1, 1) := by decide +kernel
theorem dL_groups_130 : decode cL_groups 130 = .ok (.invokevirtual 112, 3) := by decide +kernel
theorem dL_groups_133 : decode cL_groups 133 = .ok (.aload_n 0, 1) := by decide +kernel
theorem dL_groups_134 : decode cL_groups 134 = .ok (.iload 9, 2) := by decide +kernel
theorem dL_groups_136 : decode cL_groups 136 = .ok (.iconst 1, 1) := by decide +kernel
theorem dL_groups_137 : decode cL_groups 137 = .ok (.invokevirtual 109, 3) := by decide +kernel
theorem dL_groups_140 : decode cL_groups 140 = .ok (.if_icmp .ge 5, 3) := by decide +kernel
theorem dL_groups_143 : decode cL_groups 143 = .ok (.iconst 0, 1) := by decide +kernel
theorem dL_groups_144 : decode cL_groups 144 = .ok (.ireturn, 1) := by decide +kernel
theorem dL_groups_145 : decode cL_groups 145 = .ok (.iconst 0, 1) := by decide +kernel
theorem dL_groups_146 : decode cL_groups 146 = .ok (.istore 11, 2) := by decide +kernel
theorem dL_groups_148 : decode cL_groups 148 = .ok (.aload_n 0, 1) := by decide +kernel
theorem dL_groups_149 : decode cL_groups 149 = .ok (.iload 9, 2) := by decide +kernel
theorem dL_groups_151 : decode cL_groups 151 = .ok (.iload 11, 2) := by decide +kernel
theorem dL_groups_153 : decode cL_groups 153 = .ok (.invokevirtual 115, 3) := by decide +kernel
theorem dL_groups_156 : decode cL_groups 156 = .ok (.ifCond .lt 45, 3) := by decide +kernel
theorem dL_groups_159 : decode cL_groups 159 = .ok (.aload_n 0, 1) := by decide +kernel
theorem dL_groups_160 : decode cL_groups 160 = .ok (.aload_n 0, 1) := by decide +kernel
theorem dL_groups_161 : decode cL_groups 161 = .ok (.iload 9, 2) := by decide +kernel
theorem dL_groups_163 : decode cL_groups 163 = .ok (.iload 11, 2) := by decide +kernel
theorem dL_groups_165 : decode cL_groups 165 = .ok (.invokevirtual 115, 3) := by decide +kernel
theorem dL_groups_168 : decode cL_groups 168 = .ok (.invokevirtual 107, 3) := by decide +kernel
theorem dL_groups_171 : decode cL_groups 171 = .ok (.iload_n 1, 1) := by decide +kernel
theorem dL_groups_172 : decode cL_groups 172 = .ok (.if_icmp .ne 23, 3) := by decide +kernel
theorem dL_groups_175 : decode cL_groups 175 = .ok (.aload_n 0, 1) := by decide +kernel
theorem dL_groups_176 : decode cL_groups 176 = .ok (.aload_n 0, 1) := by decide +kernel
theorem dL_groups_177 : decode cL_groups 177 = .ok (.iload 9, 2) := by decide +kernel
theorem dL_groups_179 : decode cL_groups 179 = .ok (.iload 11, 2) := by decide +kernel
theorem dL_groups_181 : decode cL_groups 181 = .ok (.invokevirtual 115, 3) := by decide +kernel
theorem dL_groups_184 : decode cL_groups 184 = .ok (.iconst 0, 1) := by decide +kernel
theorem dL_groups_185 : decode cL_groups 185 = .ok (.invokevirtual 109, 3) := by decide +kernel
theorem dL_groups_188 : decode cL_groups 188 = .ok (.iload 10, 2) := by decide +kernel
theorem dL_groups_190 : decode cL_groups 190 = .ok (.if_icmp .eq 5, 3) := by decide +kernel
theorem dL_groups_193 : decode cL_groups 193 = .ok (.iconst 0, 1) := by decide +kernel
theorem dL_groups_194 : decode cL_groups 194 = .ok (.ireturn, 1) := by decide +kernel
theorem dL_groups_195 : decode cL_groups 195 = .ok (.iinc 11 1, 3) := by decide +kernel
theorem dL_groups_198 : decode cL_groups 198 = .ok (.goto (-50), 3) := by decide +kernel
theorem dL_groups_201 : decode cL_groups 201 = .ok (.iload 7, 2) := by decide +kernel
theorem dL_groups_203 : decode cL_groups 203 = .ok (.ifCond .ne 14, 3) := by decide +kernel
theorem dL_groups_206 : decode cL_groups 206 = .ok (.aload_n 0, 1) := by decide +kernel
theorem dL_groups_207 : decode cL_groups 207 = .ok (.iload 9, 2) := by decide +kernel
theorem dL_groups_209 : decode cL_groups 209 = .ok (.iconst 3, 1) := by decide +kernel
theorem dL_groups_210 : decode cL_groups 210 = .ok (.invokevirtual 109, 3) := by decide +kernel
theorem dL_groups_213 : decode cL_groups 213 = .ok (.iconst 3, 1) := by decide +kernel
theorem dL_groups_214 : decode cL_groups 214 = .ok (.if_icmp .ne 7, 3) := by decide +kernel
theorem dL_groups_217 : decode cL_groups 217 = .ok (.iconst 1, 1) := by decide +kernel
theorem dL_groups_218 : decode cL_groups 218 = .ok (.goto 4, 3) := by decide +kernel
theorem dL_groups_221 : decode cL_groups 221 = .ok (.iconst 0, 1) := by decide +kernel
theorem dL_groups_222 : decode cL_groups 222 = .ok (.istore 7, 2) := by decide +kernel
theorem dL_groups_224 : decode cL_groups 224 = .ok (.iload 8, 2) := by decide +kernel
theorem dL_groups_226 : decode cL_groups 226 = .ok (.ifCond .ne 14, 3) := by decide +kernel
theorem dL_groups_229 : decode cL_groups 229 = .ok (.aload_n 0, 1) := by decide +kernel
theorem dL_groups_230 : decode cL_groups 230 = .ok (.iload 9, 2) := by decide +kernel
theorem dL_groups_232 : decode cL_groups 232 = .ok (.iconst 3, 1) := by decide +kernel
theorem dL_groups_233 : decode cL_groups 233 = .ok (.invokevirtual 112, 3) := by decide +kernel
theorem dL_groups_236 : decode cL_groups 236 = .ok (.iconst 3, 1) := by decide +kernel
theorem dL_groups_237 : decode cL_groups 237 = .ok (.if_icmp .ne 7, 3) := by decide +kernel
theorem dL_groups_240 : decode cL_groups 240 = .ok (.iconst 1, 1) := by decide +kernel
theorem dL_groups_241 : decode cL_groups 241 = .ok (.goto 4, 3) := by decide +kernel
theorem dL_groups_244 : decode cL_groups 244 = .ok (.iconst 0, 1) := by decide +kernel
theorem dL_groups_245 : decode cL_groups 245 = .ok (.istore 8, 2) := by decide +kernel
theorem dL_groups_247 : decode cL_groups 247 = .ok (.iload_n 3, 1) := by decide +kernel
theorem dL_groups_248 : decode cL_groups 248 = .ok (.iload 10, 2) := by decide +kernel
theorem dL_groups_250 : decode cL_groups 250 = .ok (.iload 9, 2) := by decide +kernel
theorem dL_groups_252 : decode cL_groups 252 = .ok (.if_icmp .ne 7, 3) := by decide +kernel
theorem dL_groups_255 : decode cL_groups 255 = .ok (.iconst 1, 1) := by decide +kernel
theorem dL_groups_256 : decode cL_groups 256 = .ok (.goto 4, 3) := by decide +kernel
theorem dL_groups_259 : decode cL_groups 259 = .ok (.iconst 0, 1) := by decide +kernel
theorem dL_groups_260 : decode cL_groups 260 = .ok (.iadd, 1) := by decide +kernel
theorem dL_groups_261 : decode cL_groups 261 = .ok (.istore_n 3, 1) := by decide +kernel
theorem dL_groups_262 : decode cL_groups 262 = .ok (.aload_n 0, 1) := by decide +kernel
theorem dL_groups_263 : decode cL_groups 263 = .ok (.iload 9, 2) := by decide +kernel
theorem dL_groups_265 : decode cL_groups 265 = .ok (.iconst 0, 1) := by decide +kernel
theorem dL_groups_266 : decode cL_groups 266 = .ok (.invokevirtual 112, 3) := by decide +kernel
theorem dL_groups_269 : decode cL_groups 269 = .ok (.iload 9, 2) := by decide +kernel
theorem dL_groups_271 : decode cL_groups 271 = .ok (.if_icmp .eq 6, 3) := by decide +kernel
theorem dL_groups_274 : decode cL_groups 274 = .ok (.goto 30, 3) := by decide +kernel
theorem dL_groups_277 : decode cL_groups 277 = .ok (.iinc 5 1, 3) := by decide +kernel
theorem dL_groups_280 : decode cL_groups 280 = .ok (.iload 4, 2) := by decide +kernel
theorem dL_groups_282 : decode cL_groups 282 = .ok (.aload_n 0, 1) := by decide +kernel
theorem dL_groups_283 : decode cL_groups 283 = .ok (.iload 9, 2) := by decide +kernel
theorem dL_groups_285 : decode cL_groups 285 = .ok (.iconst 1, 1) := by decide +kernel
theorem dL_groups_286 : decode cL_groups 286 = .ok (.invokevirtual 112, 3) := by decide +kernel
theorem dL_groups_289 : decode cL_groups 289 = .ok (.iadd, 1) := by decide +kernel
theorem dL_groups_290 : decode cL_groups 290 = .ok (.istore 4, 2) := by decide +kernel
theorem dL_groups_292 : decode cL_groups 292 = .ok (.iload 6, 2) := by decide +kernel
theorem dL_groups_294 : decode cL_groups 294 = .ok (.aload_n 0, 1) := by decide +kernel
theorem dL_groups_295 : decode cL_groups 295 = .ok (.iload 9, 2) := by decide +kernel
theorem dL_groups_297 : decode cL_groups 297 = .ok (.iconst 2, 1) := by decide +kernel
theorem dL_groups_298 : decode cL_groups 298 = .ok (.invokevirtual 112, 3) := by decide +kernel
theorem dL_groups_301 : decode cL_groups 301 = .ok (.iadd, 1) := by decide +kernel
theorem dL_groups_302 : decode cL_groups 302 = .ok (.istore 6, 2) := by decide +kernel
theorem dL_groups_304 : decode cL_groups 304 = .ok (.iinc 9 1, 3) := by decide +kernel
theorem dL_groups_307 : decode cL_groups 307 = .ok (.goto (-285), 3) := by decide +kernel
theorem dL_groups_310 : decode cL_groups 310 = .ok (.iload 7, 2) := by decide +kernel
theorem dL_groups_312 : decode cL_groups 312 = .ok (.ifCond .eq 13, 3) := by decide +kernel
theorem dL_groups_315 : decode cL_groups 315 = .ok (.aload_n 0, 1) := by decide +kernel
theorem dL_groups_316 : decode cL_groups 316 = .ok (.bipush 6, 2) := by decide +kernel
theorem dL_groups_318 : decode cL_groups 318 = .ok (.invokevirtual 74, 3) := by decide +kernel
theorem dL_groups_321 : decode cL_groups 321 = .ok (.iload_n 1, 1) := by decide +kernel
theorem dL_groups_322 : decode cL_groups 322 = .ok (.if_icmp .ne 30, 3) := by decide +kernel
theorem dL_groups_325 : decode cL_groups 325 = .ok (.iload 7, 2) := by decide +kernel
theorem dL_groups_327 : decode cL_groups 327 = .ok (.ifCond .ne 27, 3) := by decide +kernel
theorem dL_groups_330 : decode cL_groups 330 = .ok (.aload_n 0, 1) := by decide +kernel
theorem dL_groups_331 : decode cL_groups 331 = .ok (.bipush 6, 2) := by decide +kernel
theorem dL_groups_333 : decode cL_groups 333 = .ok (.invokevirtual 74, 3) := by decide +kernel
theorem dL_groups_336 : decode cL_groups 336 = .ok (.iload_n 1, 1) := by decide +kernel
theorem dL_groups_337 : decode cL_groups 337 = .ok (.if_icmp .ne 17, 3) := by decide +kernel
theorem dL_groups_340 : decode cL_groups 340 = .ok (.aload_n 0, 1) := by decide +kernel
theorem dL_groups_341 : decode cL_groups 341 = .ok (.bipush 8, 2) := by decide +kernel
theorem dL_groups_343 : decode cL_groups 343 = .ok (.invokevirtual 74, 3) := by decide +kernel
theorem dL_groups_346 : decode cL_groups 346 = .ok (.iconst 1, 1) := by decide +kernel
theorem dL_groups_347 : decode cL_groups 347 = .ok (.iload_n 1, 1) := by decide +kernel
theorem dL_groups_348 : decode cL_groups 348 = .ok (.isub, 1) := by decide +kernel
theorem dL_groups_349 : decode cL_groups 349 = .ok (.if_icmp .eq 5, 3) := by decide +kernel
theorem dL_groups_352 : decode cL_groups 352 = .ok (.iconst 0, 1) := by decide +kernel
theorem dL_groups_353 : decode cL_groups 353 = .ok (.ireturn, 1) := by decide +kernel
theorem dL_groups_354 : decode cL_groups 354 = .ok (.aload_n 0, 1) := by decide +kernel
theorem dL_groups_355 : decode cL_groups 355 = .ok (.iconst 1, 1) := by decide +kernel
theorem dL_groups_356 : decode cL_groups 356 = .ok (.iload_n 1, 1) := by decide +kernel
theorem dL_groups_357 : decode cL_groups 357 = .ok (.iadd, 1) := by decide +kernel
theorem dL_groups_358 : decode cL_groups 358 = .ok (.invokevirtual 74, 3) := by decide +kernel
theorem dL_groups_361 : decode cL_groups 361 = .ok (.iload_n 2, 1) := by decide +kernel
theorem dL_groups_362 : decode cL_groups 362 = .ok (.if_icmp .ne 106, 3) := by decide +kernel
theorem dL_groups_365 : decode cL_groups 365 = .ok (.aload_n 0, 1) := by decide +kernel
theorem dL_groups_366 : decode cL_groups 366 = .ok (.iload_n 1, 1) := by decide +kernel
theorem dL_groups_367 : decode cL_groups 367 = .ok (.invokevirtual 118, 3) := by decide +kernel
theorem dL_groups_370 : decode cL_groups 370 = .ok (.iload_n 3, 1) := by decide +kernel
theorem dL_groups_371 : decode cL_groups 371 = .ok (.if_icmp .ne 97, 3) := by decide +kernel
theorem dL_groups_374 : decode cL_groups 374 = .ok (.aload_n 0, 1) := by decide +kernel
theorem dL_groups_375 : decode cL_groups 375 = .ok (.iload_n 1, 1) := by decide +kernel
theorem dL_groups_376 : decode cL_groups 376 = .ok (.invokevirtual 121, 3) := by decide +kernel
theorem dL_groups_379 : decode cL_groups 379 = .ok (.iload 5, 2) := by decide +kernel
theorem dL_groups_381 : decode cL_groups 381 = .ok (.if_icmp .ne 87, 3) := by decide +kernel
theorem dL_groups_384 : decode cL_groups 384 = .ok (.iload 4, 2) := by decide +kernel
theorem dL_groups_386 : decode cL_groups 386 = .ok (.iload_n 2, 1) := by decide +kernel
theorem dL_groups_387 : decode cL_groups 387 = .ok (.if_icmp .ne 81, 3) := by decide +kernel
theorem dL_groups_390 : decode cL_groups 390 = .ok (.aload_n 0, 1) := by decide +kernel
theorem dL_groups_391 : decode cL_groups 391 = .ok (.iload_n 1, 1) := by decide +kernel
theorem dL_groups_392 : decode cL_groups 392 = .ok (.iconst 1, 1) := by decide +kernel
theorem dL_groups_393 : decode cL_groups 393 = .ok (.invokevirtual 124, 3) := by decide +kernel
theorem dL_groups_396 : decode cL_groups 396 = .ok (.iload 6, 2) := by decide +kernel
theorem dL_groups_398 : decode cL_groups 398 = .ok (.if_icmp .ne 70, 3) := by decide +kernel
theorem dL_groups_401 : decode cL_groups 401 = .ok (.aload_n 0, 1) := by decide +kernel
theorem dL_groups_402 : decode cL_groups 402 = .ok (.iload_n 1, 1) := by decide +kernel
theorem dL_groups_403 : decode cL_groups 403 = .ok (.invokevirtual 128, 3) := by decide +kernel
theorem dL_groups_406 : decode cL_groups 406 = .ok (.iload 8, 2) := by decide +kernel
theorem dL_groups_408 : decode cL_groups 408 = .ok (.if_icmp .ne 60, 3) := by decide +kernel
theorem dL_groups_411 : decode cL_groups 411 = .ok (.iload 7, 2) := by decide +kernel
theorem dL_groups_413 : decode cL_groups 413 = .ok (.ifCond .eq 8, 3) := by decide +kernel
theorem dL_groups_416 : decode cL_groups 416 = .ok (.iload 8, 2) := by decide +kernel
theorem dL_groups_418 : decode cL_groups 418 = .ok (.ifCond .eq 50, 3) := by decide +kernel
theorem dL_groups_421 : decode cL_groups 421 = .ok (.aload_n 0, 1) := by decide +kernel
theorem dL_groups_422 : decode cL_groups 422 = .ok (.iload_n 1, 1) := by decide +kernel
theorem dL_groups_423 : decode cL_groups 423 = .ok (.invokevirtual 132, 3) := by decide +kernel
theorem dL_groups_426 : decode cL_groups 426 = .ok (.ifCond .ne 7, 3) := by decide +kernel
theorem dL_groups_429 : decode cL_groups 429 = .ok (.iconst 1, 1) := by decide +kernel
theorem dL_groups_430 : decode cL_groups 430 = .ok (.goto 4, 3) := by decide +kernel
theorem dL_groups_433 : decode cL_groups 433 = .ok (.iconst 0, 1) := by decide +kernel
theorem dL_groups_434 : decode cL_groups 434 = .ok (.iload 7, 2) := by decide +kernel
theorem dL_groups_436 : decode cL_groups 436 = .ok (.if_icmp .ne 32, 3) := by decide +kernel
theorem dL_groups_439 : decode cL_groups 439 = .ok (.aload_n 0, 1) := by decide +kernel
theorem dL_groups_440 : decode cL_groups 440 = .ok (.iload_n 1, 1) := by decide +kernel
theorem dL_groups_441 : decode cL_groups 441 = .ok (.invokevirtual 135, 3) := by decide +kernel
theorem dL_groups_444 : decode cL_groups 444 = .ok (.ifCond .ge 7, 3) := by decide +kernel
theorem dL_groups_447 : decode cL_groups 447 = .ok (.iconst 1, 1) := by decide +kernel
theorem dL_groups_448 : decode cL_groups 448 = .ok (.goto 4, 3) := by decide +kernel
theorem dL_groups_451 : decode cL_groups 451 = .ok (.iconst 0, 1) := by decide +kernel
theorem dL_groups_452 : decode cL_groups 452 = .ok (.iload_n 2, 1) := by decide +kernel
theorem dL_groups_453 : decode cL_groups 453 = .ok (.ifCond .ne 7, 3) := by decide +kernel
theorem dL_groups_456 : decode cL_groups 456 = .ok (.iconst 1, 1) := by decide +kernel
theorem dL_groups_457 : decode cL_groups 457 = .ok (.goto 4, 3) := by decide +kernel
theorem dL_groups_460 : decode cL_groups 460 = .ok (.iconst 0, 1) := by decide +kernel
theorem dL_groups_461 : decode cL_groups 461 = .ok (.if_icmp .ne 7, 3) := by decide +kernel
theorem dL_groups_464 : decode cL_groups 464 = .ok (.iconst 1, 1) := by decide +kernel
theorem dL_groups_465 : decode cL_groups 465 = .ok (.goto 4, 3) := by decide +kernel
theorem dL_groups_468 : decode cL_groups 468 = .ok (.iconst 0, 1) := by decide +kernel
theorem dL_groups_469 : decode cL_groups 469 = .ok (.ireturn, 1) := by decide +kernel
theorem dL_bridges_0 : decode cL_bridges 0 = .ok (.bipush 81, 2) := by decide +kernel
theorem dL_bridges_2 : decode cL_bridges 2 = .ok (.newarray .boolean, 2) := by decide +kernel
theorem dL_bridges_4 : decode cL_bridges 4 = .ok (.astore_n 2, 1) := by decide +kernel
theorem dL_bridges_5 : decode cL_bridges 5 = .ok (.aload_n 0, 1) := by decide +kernel
theorem dL_bridges_6 : decode cL_bridges 6 = .ok (.iload_n 1, 1) := by decide +kernel
theorem dL_bridges_7 : decode cL_bridges 7 = .ok (.iconst 0, 1) := by decide +kernel
theorem dL_bridges_8 : decode cL_bridges 8 = .ok (.invokevirtual 124, 3) := by decide +kernel
theorem dL_bridges_11 : decode cL_bridges 11 = .ok (.istore_n 3, 1) := by decide +kernel
theorem dL_bridges_12 : decode cL_bridges 12 = .ok (.aload_n 0, 1) := by decide +kernel
theorem dL_bridges_13 : decode cL_bridges 13 = .ok (.iload_n 1, 1) := by decide +kernel
theorem dL_bridges_14 : decode cL_bridges 14 = .ok (.iload_n 3, 1) := by decide +kernel
theorem dL_bridges_15 : decode cL_bridges 15 = .ok (.iconst 0, 1) := by decide +kernel
theorem dL_bridges_16 : decode cL_bridges 16 = .ok (.invokevirtual 138, 3) := by decide +kernel
theorem dL_bridges_19 : decode cL_bridges 19 = .ok (.iconst (-1), 1) := by decide +kernel
theorem dL_bridges_20 : decode cL_bridges 20 = .ok (.if_icmp .eq 5, 3) := by decide +kernel
theorem dL_bridges_23 : decode cL_bridges 23 = .ok (.iconst 0, 1) := by decide +kernel
theorem dL_bridges_24 : decode cL_bridges 24 = .ok (.ireturn, 1) := by decide +kernel
theorem dL_bridges_25 : decode cL_bridges 25 = .ok (.iconst 0, 1) := by decide +kernel
theorem dL_bridges_26 : decode cL_bridges 26 = .ok (.istore 4, 2) := by decide +kernel
theorem dL_bridges_28 : decode cL_bridges 28 = .ok (.iload 4, 2) := by decide +kernel
theorem dL_bridges_30 : decode cL_bridges 30 = .ok (.iload_n 3, 1) := by decide +kernel
theorem dL_bridges_31 : decode cL_bridges 31 = .ok (.if_icmp .ge 261, 3) := by decide +kernel
theorem dL_bridges_34 : decode cL_bridges 34 = .ok (.aload_n 0, 1) := by decide +kernel
theorem dL_bridges_35 : decode cL_bridges 35 = .ok (.iload_n 1, 1) := by decide +kernel
theorem dL_bridges_36 : decode cL_bridges 36 = .ok (.iload 4, 2) := by decide +kernel
theorem dL_bridges_38 : decode cL_bridges 38 = .ok (.iconst 0, 1) := by decide +kernel
theorem dL_bridges_39 : decode cL_bridges 39 = .ok (.invokevirtual 138, 3) := by decide +kernel
theorem dL_bridges_42 : decode cL_bridges 42 = .ok (.istore 5, 2) := by decide +kernel
theorem dL_bridges_44 : decode cL_bridges 44 = .ok (.aload_n 0, 1) := by decide +kernel
theorem dL_bridges_45 : decode cL_bridges 45 = .ok (.iload_n 1, 1) := by decide +kernel
theorem dL_bridges_46 : decode cL_bridges 46 = .ok (.iload 4, 2) := by decide +kernel
theorem dL_bridges_48 : decode cL_bridges 48 = .ok (.iconst 1, 1) := by decide +kernel
theorem dL_bridges_49 : decode cL_bridges 49 = .ok (.invokevirtual 138, 3) := by decide +kernel
theorem dL_bridges_52 : decode cL_bridges 52 = .ok (.istore 6, 2) := by decide +kernel
theorem dL_bridges_54 : decode cL_bridges 54 = .ok (.aload_n 0, 1) := by decide +kernel
theorem dL_bridges_55 : decode cL_bridges 55 = .ok (.iload_n 1, 1) := by decide +kernel
theorem dL_bridges_56 : decode cL_bridges 56 = .ok (.iload 4, 2) := by decide +kernel
theorem dL_bridges_58 : decode cL_bridges 58 = .ok (.iconst 2, 1) := by decide +kernel
theorem dL_bridges_59 : decode cL_bridges 59 = .ok (.invokevirtual 138, 3) := by decide +kernel
theorem dL_bridges_62 : decode cL_bridges 62 = .ok (.istore 7, 2) := by decide +kernel
theorem dL_bridges_64 : decode cL_bridges 64 = .ok (.aload_n 0, 1) := by decide +kernel
theorem dL_bridges_65 : decode cL_bridges 65 = .ok (.iload_n 1, 1) := by decide +kernel
theorem dL_bridges_66 : decode cL_bridges 66 = .ok (.iload 4, 2) := by decide +kernel
theorem dL_bridges_68 : decode cL_bridges 68 = .ok (.iconst 3, 1) := by decide +kernel
theorem dL_bridges_69 : decode cL_bridges 69 = .ok (.invokevirtual 138, 3) := by decide +kernel
theorem dL_bridges_72 : decode cL_bridges 72 = .ok (.istore 8, 2) := by decide +kernel
theorem dL_bridges_74 : decode cL_bridges 74 = .ok (.aload_n 0, 1) := by decide +kernel
theorem dL_bridges_75 : decode cL_bridges 75 = .ok (.iload 5, 2) := by decide +kernel
theorem dL_bridges_77 : decode cL_bridges 77 = .ok (.invokevirtual 107, 3) := by decide +kernel
theorem dL_bridges_80 : decode cL_bridges 80 = .ok (.iload_n 1, 1) := by decide +kernel
theorem dL_bridges_81 : decode cL_bridges 81 = .ok (.if_icmp .ne 30, 3) := by decide +kernel
theorem dL_bridges_84 : decode cL_bridges 84 = .ok (.aload_n 0, 1) := by decide +kernel
theorem dL_bridges_85 : decode cL_bridges 85 = .ok (.iload 7, 2) := by decide +kernel
theorem dL_bridges_87 : decode cL_bridges 87 = .ok (.invokevirtual 107, 3) := by decide +kernel
theorem dL_bridges_90 : decode cL_bridges 90 = .ok (.iconst (-1), 1) := by decide +kernel
theorem dL_bridges_91 : decode cL_bridges 91 = .ok (.if_icmp .ne 20, 3) := by decide +kernel
theorem dL_bridges_94 : decode cL_bridges 94 = .ok (.aload_n 0, 1) := by decide +kernel
theorem dL_bridges_95 : decode cL_bridges 95 = .ok (.iload 8, 2) := by decide +kernel
theorem dL_bridges_97 : decode cL_bridges 97 = .ok (.invokevirtual 107, 3) := by decide +kernel
theorem dL_bridges_100 : decode cL_bridges 100 = .ok (.iconst (-1), 1) := by decide +kernel
theorem dL_bridges_101 : decode cL_bridges 101 = .ok (.if_icmp .ne 10, 3) := by decide +kernel
theorem dL_bridges_104 : decode cL_bridges 104 = .ok (.iload 7, 2) := by decide +kernel
theorem dL_bridges_106 : decode cL_bridges 106 = .ok (.iload 8, 2) := by decide +kernel
theorem dL_bridges_108 : decode cL_bridges 108 = .ok (.if_icmp .lt 5, 3) := by decide +kernel
theorem dL_bridges_111 : decode cL_bridges 111 = .ok (.iconst 0, 1) := by decide +kernel
theorem dL_bridges_112 : decode cL_bridges 112 = .ok (.ireturn, 1) := by decide +kernel
theorem dL_bridges_113 : decode cL_bridges 113 = .ok (.iload 6, 2) := by decide +kernel
theorem dL_bridges_115 : decode cL_bridges 115 = .ok (.ifCond .lt 51, 3) := by decide +kernel
theorem dL_bridges_118 : decode cL_bridges 118 = .ok (.iload 6, 2) := by decide +kernel
theorem dL_bridges_120 : decode cL_bridges 120 = .ok (.iload 5, 2) := by decide +kernel
theorem dL_bridges_122 : decode cL_bridges 122 = .ok (.if_icmp .le 42, 3) := by decide +kernel
theorem dL_bridges_125 : decode cL_bridges 125 = .ok (.aload_n 0, 1) := by decide +kernel
theorem dL_bridges_126 : decode cL_bridges 126 = .ok (.iload 6, 2) := by decide +kernel
theorem dL_bridges_128 : decode cL_bridges 128 = .ok (.iload 5, 2) := by decide +kernel
theorem dL_bridges_130 : decode cL_bridges 130 = .ok (.invokevirtual 142, 3) := by decide +kernel
theorem dL_bridges_133 : decode cL_bridges 133 = .ok (.ifCond .eq 31, 3) := by decide +kernel
theorem dL_bridges_136 : decode cL_bridges 136 = .ok (.aload_n 0, 1) := by decide +kernel
theorem dL_bridges_137 : decode cL_bridges 137 = .ok (.iload 5, 2) := by decide +kernel
theorem dL_bridges_139 : decode cL_bridges 139 = .ok (.iconst 0, 1) := by decide +kernel
theorem dL_bridges_140 : decode cL_bridges 140 = .ok (.invokevirtual 109, 3) := by decide +kernel
theorem dL_bridges_143 : decode cL_bridges 143 = .ok (.aload_n 0, 1) := by decide +kernel
theorem dL_bridges_144 : decode cL_bridges 144 = .ok (.iload 6, 2) := by decide +kernel
theorem dL_bridges_146 : decode cL_bridges 146 = .ok (.iconst 0, 1) := by decide +kernel
theorem dL_bridges_147 : decode cL_bridges 147 = .ok (.invokevirtual 109, 3) := by decide +kernel
theorem dL_bridges_150 : decode cL_bridges 150 = .ok (.if_icmp .ne 16, 3) := by decide +kernel
theorem dL_bridges_153 : decode cL_bridges 153 = .ok (.aload_n 0, 1) := by decide +kernel
theorem dL_bridges_154 : decode cL_bridges 154 = .ok (.iload 5, 2) := by decide +kernel
theorem dL_bridges_156 : decode cL_bridges 156 = .ok (.iconst 1, 1) := by decide +kernel
theorem dL_bridges_157 : decode cL_bridges 157 = .ok (.invokevirtual 109, 3) := by decide +kernel
theorem dL_bridges_160 : decode cL_bridges 160 = .ok (.iconst 3, 1) := by decide +kernel
theorem dL_bridges_161 : decode cL_bridges 161 = .ok (.if_icmp .ge 5, 3) := by decide +kernel
theorem dL_bridges_164 : decode cL_bridges 164 = .ok (.iconst 0, 1) := by decide +kernel
theorem dL_bridges_165 : decode cL_bridges 165 = .ok (.ireturn, 1) := by decide +kernel
theorem dL_bridges_166 : decode cL_bridges 166 = .ok (.aload_n 2, 1) := by decide +kernel
theorem dL_bridges_167 : decode cL_bridges 167 = .ok (.iload 7, 2) := by decide +kernel
theorem dL_bridges_169 : decode cL_bridges 169 = .ok (.baload, 1) := by decide +kernel
theorem dL_bridges_170 : decode cL_bridges 170 = .ok (.ifCond .ne 14, 3) := by decide +kernel
theorem dL_bridges_173 : decode cL_bridges 173 = .ok (.aload_n 2, 1) := by decide +kernel
theorem dL_bridges_174 : decode cL_bridges 174 = .ok (.iload 8, 2) := by decide +kernel
theorem dL_bridges_176 : decode cL_bridges 176 = .ok (.baload, 1) := by decide +kernel
theorem dL_bridges_177 : decode cL_bridges 177 = .ok (.ifCond .ne 7, 3) := by decide +kernel
theorem dL_bridges_180 : decode cL_bridges 180 = .ok (.iconst 1, 1) := by decide +kernel
theorem dL_bridges_181 : decode cL_bridges 181 = .ok (.goto 4, 3) := by decide +kernel
theorem dL_bridges_184 : decode cL_bridges 184 = .ok (.iconst 0, 1) := by decide +kernel
theorem dL_bridges_185 : decode cL_bridges 185 = .ok (.istore 9, 2) := by decide +kernel
theorem dL_bridges_187 : decode cL_bridges 187 = .ok (.aload_n 0, 1) := by decide +kernel
theorem dL_bridges_188 : decode cL_bridges 188 = .ok (.iload_n 1, 1) := by decide +kernel
theorem dL_bridges_189 : decode cL_bridges 189 = .ok (.iload 4, 2) := by decide +kernel
theorem dL_bridges_191 : decode cL_bridges 191 = .ok (.iconst 4, 1) := by decide +kernel
theorem dL_bridges_192 : decode cL_bridges 192 = .ok (.invokevirtual 138, 3) := by decide +kernel
theorem dL_bridges_195 : decode cL_bridges 195 = .ok (.iconst 1, 1) := by decide +kernel
theorem dL_bridges_196 : decode cL_bridges 196 = .ok (.if_icmp .ne 7, 3) := by decide +kernel
theorem dL_bridges_199 : decode cL_bridges 199 = .ok (.iconst 1, 1) := by decide +kernel
theorem dL_bridges_200 : decode cL_bridges 200 = .ok (.goto 4, 3) := by decide +kernel
theorem dL_bridges_203 : decode cL_bridges 203 = .ok (.iconst 0, 1) := by decide +kernel
theorem dL_bridges_204 : decode cL_bridges 204 = .ok (.iload 9, 2) := by decide +kernel
theorem dL_bridges_206 : decode cL_bridges 206 = .ok (.if_icmp .eq 5, 3) := by decide +kernel
theorem dL_bridges_209 : decode cL_bridges 209 = .ok (.iconst 0, 1) := by decide +kernel
theorem dL_bridges_210 : decode cL_bridges 210 = .ok (.ireturn, 1) := by decide +kernel
theorem dL_bridges_211 : decode cL_bridges 211 = .ok (.iload 9, 2) := by decide +kernel
theorem dL_bridges_213 : decode cL_bridges 213 = .ok (.ifCond .ne 6, 3) := by decide +kernel
theorem dL_bridges_216 : decode cL_bridges 216 = .ok (.goto 70, 3) := by decide +kernel
theorem dL_bridges_219 : decode cL_bridges 219 = .ok (.aload_n 2, 1) := by decide +kernel
theorem dL_bridges_220 : decode cL_bridges 220 = .ok (.iload 7, 2) := by decide +kernel
theorem dL_bridges_222 : decode cL_bridges 222 = .ok (.iconst 1, 1) := by decide +kernel
theorem dL_bridges_223 : decode cL_bridges 223 = .ok (.bastore, 1) := by decide +kernel
theorem dL_bridges_224 : decode cL_bridges 224 = .ok (.aload_n 2, 1) := by decide +kernel
theorem dL_bridges_225 : decode cL_bridges 225 = .ok (.iload 8, 2) := by decide +kernel
theorem dL_bridges_227 : decode cL_bridges 227 = .ok (.iconst 1, 1) := by decide +kernel
theorem dL_bridges_228 : decode cL_bridges 228 = .ok (.bastore, 1) := by decide +kernel
theorem dL_bridges_229 : decode cL_bridges 229 = .ok (.aload_n 0, 1) := by decide +kernel
theorem dL_bridges_230 : decode cL_bridges 230 = .ok (.iconst 5, 1) := by decide +kernel
theorem dL_bridges_231 : decode cL_bridges 231 = .ok (.invokevirtual 74, 3) := by decide +kernel
theorem dL_bridges_234 : decode cL_bridges 234 = .ok (.iload_n 1, 1) := by decide +kernel
theorem dL_bridges_235 : decode cL_bridges 235 = .ok (.if_icmp .eq 27, 3) := by decide +kernel
theorem dL_bridges_238 : decode cL_bridges 238 = .ok (.aload_n 0, 1) := by decide +kernel
theorem dL_bridges_239 : decode cL_bridges 239 = .ok (.iload 7, 2) := by decide +kernel
theorem dL_bridges_241 : decode cL_bridges 241 = .ok (.invokevirtual 146, 3) := by decide +kernel
theorem dL_bridges_244 : decode cL_bridges 244 = .ok (.iload 8, 2) := by decide +kernel
theorem dL_bridges_246 : decode cL_bridges 246 = .ok (.if_icmp .ne 14, 3) := by decide +kernel
theorem dL_bridges_249 : decode cL_bridges 249 = .ok (.aload_n 0, 1) := by decide +kernel
theorem dL_bridges_250 : decode cL_bridges 250 = .ok (.iload 8, 2) := by decide +kernel
theorem dL_bridges_252 : decode cL_bridges 252 = .ok (.invokevirtual 146, 3) := by decide +kernel
theorem dL_bridges_255 : decode cL_bridges 255 = .ok (.iload 7, 2) := by decide +kernel
theorem dL_bridges_257 : decode cL_bridges 257 = .ok (.if_icmp .eq 5, 3) := by decide +kernel
theorem dL_bridges_260 : decode cL_bridges 260 = .ok (.iconst 0, 1) := by decide +kernel
theorem dL_bridges_261 : decode cL_bridges 261 = .ok (.ireturn, 1) := by decide +kernel
theorem dL_bridges_262 : decode cL_bridges 262 = .ok (.iload 6, 2) := by decide +kernel
theorem dL_bridges_264 : decode cL_bridges 264 = .ok (.ifCond .lt 22, 3) := by decide +kernel
theorem dL_bridges_267 : decode cL_bridges 267 = .ok (.aload_n 0, 1) := by decide +kernel
theorem dL_bridges_268 : decode cL_bridges 268 = .ok (.iload 5, 2) := by decide +kernel
theorem dL_bridges_270 : decode cL_bridges 270 = .ok (.iconst 0, 1) := by decide +kernel
theorem dL_bridges_271 : decode cL_bridges 271 = .ok (.invokevirtual 112, 3) := by decide +kernel
theorem dL_bridges_274 : decode cL_bridges 274 = .ok (.aload_n 0, 1) := by decide +kernel
theorem dL_bridges_275 : decode cL_bridges 275 = .ok (.iload 6, 2) := by decide +kernel
theorem dL_bridges_277 : decode cL_bridges 277 = .ok (.iconst 0, 1) := by decide +kernel
theorem dL_bridges_278 : decode cL_bridges 278 = .ok (.invokevirtual 112, 3) := by decide +kernel
theorem dL_bridges_281 : decode cL_bridges 281 = .ok (.if_icmp .eq 5, 3) := by decide +kernel
theorem dL_bridges_284 : decode cL_bridges 284 = .ok (.iconst 0, 1) := by decide +kernel
theorem dL_bridges_285 : decode cL_bridges 285 = .ok (.ireturn, 1) := by decide +kernel
theorem dL_bridges_286 : decode cL_bridges 286 = .ok (.iinc 4 1, 3) := by decide +kernel
theorem dL_bridges_289 : decode cL_bridges 289 = .ok (.goto (-261), 3) := by decide +kernel
theorem dL_bridges_292 : decode cL_bridges 292 = .ok (.iconst 1, 1) := by decide +kernel
theorem dL_bridges_293 : decode cL_bridges 293 = .ok (.ireturn, 1) := by decide +kernel
theorem dL_ways_0 : decode cL_ways 0 = .ok (.aload_n 0, 1) := by decide +kernel
theorem dL_ways_1 : decode cL_ways 1 = .ok (.iload_n 1, 1) := by decide +kernel
theorem dL_ways_2 : decode cL_ways 2 = .ok (.invokevirtual 132, 3) := by decide +kernel
theorem dL_ways_5 : decode cL_ways 5 = .ok (.istore_n 2, 1) := by decide +kernel
theorem dL_ways_6 : decode cL_ways 6 = .ok (.iconst 0, 1) := by decide +kernel
theorem dL_ways_7 : decode cL_ways 7 = .ok (.istore_n 3, 1) := by decide +kernel
theorem dL_ways_8 : decode cL_ways 8 = .ok (.iconst 0, 1) := by decide +kernel
theorem dL_ways_9 : decode cL_ways 9 = .ok (.istore 4, 2) := by decide +kernel
theorem dL_ways_11 : decode cL_ways 11 = .ok (.iload 4, 2) := by decide +kernel
theorem dL_ways_13 : decode cL_ways 13 = .ok (.aload_n 0, 1) := by decide +kernel
theorem dL_ways_14 : decode cL_ways 14 = .ok (.iconst 0, 1) := by decide +kernel
theorem dL_ways_15 : decode cL_ways 15 = .ok (.invokevirtual 74, 3) := by decide +kernel
theorem dL_ways_18 : decode cL_ways 18 = .ok (.aload_n 0, 1) := by decide +kernel
theorem dL_ways_19 : decode cL_ways 19 = .ok (.iconst 0, 1) := by decide +kernel
theorem dL_ways_20 : decode cL_ways 20 = .ok (.invokevirtual 74, 3) := by decide +kernel
theorem dL_ways_23 : decode cL_ways 23 = .ok (.imul, 1) := by decide +kernel
theorem dL_ways_24 : decode cL_ways 24 = .ok (.if_icmp .ge 127, 3) := by decide +kernel
theorem dL_ways_27 : decode cL_ways 27 = .ok (.aload_n 0, 1) := by decide +kernel
theorem dL_ways_28 : decode cL_ways 28 = .ok (.iload_n 1, 1) := by decide +kernel
theorem dL_ways_29 : decode cL_ways 29 = .ok (.iload 4, 2) := by decide +kernel
theorem dL_ways_31 : decode cL_ways 31 = .ok (.invokevirtual 149, 3) := by decide +kernel
theorem dL_ways_34 : decode cL_ways 34 = .ok (.istore 5, 2) := by decide +kernel
theorem dL_ways_36 : decode cL_ways 36 = .ok (.iload 5, 2) := by decide +kernel
theorem dL_ways_38 : decode cL_ways 38 = .ok (.ifCond .lt 13, 3) := by decide +kernel
theorem dL_ways_41 : decode cL_ways 41 = .ok (.iload_n 2, 1) := by decide +kernel
theorem dL_ways_42 : decode cL_ways 42 = .ok (.ifCond .lt 27, 3) := by decide +kernel
theorem dL_ways_45 : decode cL_ways 45 = .ok (.iload 5, 2) := by decide +kernel
theorem dL_ways_47 : decode cL_ways 47 = .ok (.iload_n 2, 1) := by decide +kernel
theorem dL_ways_48 : decode cL_ways 48 = .ok (.if_icmp .lt 21, 3) := by decide +kernel
theorem dL_ways_51 : decode cL_ways 51 = .ok (.aload_n 0, 1) := by decide +kernel
theorem dL_ways_52 : decode cL_ways 52 = .ok (.iload 4, 2) := by decide +kernel
theorem dL_ways_54 : decode cL_ways 54 = .ok (.invokevirtual 107, 3) := by decide +kernel
theorem dL_ways_57 : decode cL_ways 57 = .ok (.iconst 1, 1) := by decide +kernel
theorem dL_ways_58 : decode cL_ways 58 = .ok (.iload_n 1, 1) := by decide +kernel
theorem dL_ways_59 : decode cL_ways 59 = .ok (.isub, 1) := by decide +kernel
theorem dL_ways_60 : decode cL_ways 60 = .ok (.if_icmp .ne 11, 3) := by decide +kernel
theorem dL_ways_63 : decode cL_ways 63 = .ok (.iload 5, 2) := by decide +kernel
theorem dL_ways_65 : decode cL_ways 65 = .ok (.iconst (-1), 1) := by decide +kernel
theorem dL_ways_66 : decode cL_ways 66 = .ok (.if_icmp .eq 5, 3) := by decide +kernel
theorem dL_ways_69 : decode cL_ways 69 = .ok (.iconst 0, 1) := by decide +kernel
theorem dL_ways_70 : decode cL_ways 70 = .ok (.ireturn, 1) := by decide +kernel
theorem dL_ways_71 : decode cL_ways 71 = .ok (.iload_n 3, 1) := by decide +kernel
theorem dL_ways_72 : decode cL_ways 72 = .ok (.aload_n 0, 1) := by decide +kernel
theorem dL_ways_73 : decode cL_ways 73 = .ok (.iload 4, 2) := by decide +kernel
theorem dL_ways_75 : decode cL_ways 75 = .ok (.invokevirtual 107, 3) := by decide +kernel
theorem dL_ways_78 : decode cL_ways 78 = .ok (.iconst (-1), 1) := by decide +kernel
theorem dL_ways_79 : decode cL_ways 79 = .ok (.if_icmp .ne 17, 3) := by decide +kernel
theorem dL_ways_82 : decode cL_ways 82 = .ok (.iload_n 2, 1) := by decide +kernel
theorem dL_ways_83 : decode cL_ways 83 = .ok (.ifCond .lt 13, 3) := by decide +kernel
theorem dL_ways_86 : decode cL_ways 86 = .ok (.iload 5, 2) := by decide +kernel
theorem dL_ways_88 : decode cL_ways 88 = .ok (.iload_n 2, 1) := by decide +kernel
theorem dL_ways_89 : decode cL_ways 89 = .ok (.if_icmp .ne 7, 3) := by decide +kernel
theorem dL_ways_92 : decode cL_ways 92 = .ok (.iconst 1, 1) := by decide +kernel
theorem dL_ways_93 : decode cL_ways 93 = .ok (.goto 4, 3) := by decide +kernel
theorem dL_ways_96 : decode cL_ways 96 = .ok (.iconst 0, 1) := by decide +kernel
theorem dL_ways_97 : decode cL_ways 97 = .ok (.iadd, 1) := by decide +kernel
theorem dL_ways_98 : decode cL_ways 98 = .ok (.istore_n 3, 1) := by decide +kernel
theorem dL_ways_99 : decode cL_ways 99 = .ok (.aload_n 0, 1) := by decide +kernel
theorem dL_ways_100 : decode cL_ways 100 = .ok (.iload_n 1, 1) := by decide +kernel
theorem dL_ways_101 : decode cL_ways 101 = .ok (.iload 4, 2) := by decide +kernel
theorem dL_ways_103 : decode cL_ways 103 = .ok (.bipush 9, 2) := by decide +kernel
theorem dL_ways_105 : decode cL_ways 105 = .ok (.invokevirtual 152, 3) := by decide +kernel
theorem dL_ways_108 : decode cL_ways 108 = .ok (.istore 6, 2) := by decide +kernel
theorem dL_ways_110 : decode cL_ways 110 = .ok (.aload_n 0, 1) := by decide +kernel
theorem dL_ways_111 : decode cL_ways 111 = .ok (.iload 4, 2) := by decide +kernel
theorem dL_ways_113 : decode cL_ways 113 = .ok (.invokevirtual 107, 3) := by decide +kernel
theorem dL_ways_116 : decode cL_ways 116 = .ok (.iconst 1, 1) := by decide +kernel
theorem dL_ways_117 : decode cL_ways 117 = .ok (.iload_n 1, 1) := by decide +kernel
theorem dL_ways_118 : decode cL_ways 118 = .ok (.isub, 1) := by decide +kernel
theorem dL_ways_119 : decode cL_ways 119 = .ok (.if_icmp .ne 12, 3) := by decide +kernel
theorem dL_ways_122 : decode cL_ways 122 = .ok (.iload 6, 2) := by decide +kernel
theorem dL_ways_124 : decode cL_ways 124 = .ok (.iconst (-1), 1) := by decide +kernel
theorem dL_ways_125 : decode cL_ways 125 = .ok (.if_icmp .eq 20, 3) := by decide +kernel
theorem dL_ways_128 : decode cL_ways 128 = .ok (.goto 15, 3) := by decide +kernel
theorem dL_ways_131 : decode cL_ways 131 = .ok (.iload 6, 2) := by decide +kernel
theorem dL_ways_133 : decode cL_ways 133 = .ok (.ifCond .lt 10, 3) := by decide +kernel
theorem dL_ways_136 : decode cL_ways 136 = .ok (.iload 6, 2) := by decide +kernel
theorem dL_ways_138 : decode cL_ways 138 = .ok (.ldc 155, 2) := by decide +kernel
theorem dL_ways_140 : decode cL_ways 140 = .ok (.if_icmp .le 5, 3) := by decide +kernel
theorem dL_ways_143 : decode cL_ways 143 = .ok (.iconst 0, 1) := by decide +kernel
theorem dL_ways_144 : decode cL_ways 144 = .ok (.ireturn, 1) := by decide +kernel
theorem dL_ways_145 : decode cL_ways 145 = .ok (.iinc 4 1, 3) := by decide +kernel
theorem dL_ways_148 : decode cL_ways 148 = .ok (.goto (-137), 3) := by decide +kernel
theorem dL_ways_151 : decode cL_ways 151 = .ok (.aload_n 0, 1) := by decide +kernel
theorem dL_ways_152 : decode cL_ways 152 = .ok (.iload_n 1, 1) := by decide +kernel
theorem dL_ways_153 : decode cL_ways 153 = .ok (.invokevirtual 156, 3) := by decide +kernel
theorem dL_ways_156 : decode cL_ways 156 = .ok (.iload_n 3, 1) := by decide +kernel
theorem dL_ways_157 : decode cL_ways 157 = .ok (.if_icmp .ne 21, 3) := by decide +kernel
theorem dL_ways_160 : decode cL_ways 160 = .ok (.iload_n 2, 1) := by decide +kernel
theorem dL_ways_161 : decode cL_ways 161 = .ok (.ifCond .ge 13, 3) := by decide +kernel
theorem dL_ways_164 : decode cL_ways 164 = .ok (.aload_n 0, 1) := by decide +kernel
theorem dL_ways_165 : decode cL_ways 165 = .ok (.iconst 1, 1) := by decide +kernel
theorem dL_ways_166 : decode cL_ways 166 = .ok (.iload_n 1, 1) := by decide +kernel
theorem dL_ways_167 : decode cL_ways 167 = .ok (.isub, 1) := by decide +kernel
theorem dL_ways_168 : decode cL_ways 168 = .ok (.invokevirtual 132, 3) := by decide +kernel
theorem dL_ways_171 : decode cL_ways 171 = .ok (.ifCond .lt 7, 3) := by decide +kernel
theorem dL_ways_174 : decode cL_ways 174 = .ok (.iconst 1, 1) := by decide +kernel
theorem dL_ways_175 : decode cL_ways 175 = .ok (.goto 4, 3) := by decide +kernel
theorem dL_ways_178 : decode cL_ways 178 = .ok (.iconst 0, 1) := by decide +kernel
theorem dL_ways_179 : decode cL_ways 179 = .ok (.ireturn, 1) := by decide +kernel
theorem dL_threats_0 : decode cL_threats 0 = .ok (.aload_n 0, 1) := by decide +kernel
theorem dL_threats_1 : decode cL_threats 1 = .ok (.iload_n 1, 1) := by decide +kernel
theorem dL_threats_2 : decode cL_threats 2 = .ok (.invokevirtual 159, 3) := by decide +kernel
theorem dL_threats_5 : decode cL_threats 5 = .ok (.istore_n 2, 1) := by decide +kernel
theorem dL_threats_6 : decode cL_threats 6 = .ok (.aload_n 0, 1) := by decide +kernel
theorem dL_threats_7 : decode cL_threats 7 = .ok (.iload_n 1, 1) := by decide +kernel
theorem dL_threats_8 : decode cL_threats 8 = .ok (.iload_n 2, 1) := by decide +kernel
theorem dL_threats_9 : decode cL_threats 9 = .ok (.invokevirtual 162, 3) := by decide +kernel
theorem dL_threats_12 : decode cL_threats 12 = .ok (.iconst (-1), 1) := by decide +kernel
theorem dL_threats_13 : decode cL_threats 13 = .ok (.if_icmp .eq 5, 3) := by decide +kernel
theorem dL_threats_16 : decode cL_threats 16 = .ok (.iconst 0, 1) := by decide +kernel
theorem dL_threats_17 : decode cL_threats 17 = .ok (.ireturn, 1) := by decide +kernel
theorem dL_threats_18 : decode cL_threats 18 = .ok (.aload_n 0, 1) := by decide +kernel
theorem dL_threats_19 : decode cL_threats 19 = .ok (.iload_n 1, 1) := by decide +kernel
theorem dL_threats_20 : decode cL_threats 20 = .ok (.invokevirtual 132, 3) := by decide +kernel
theorem dL_threats_23 : decode cL_threats 23 = .ok (.ifCond .ne 13, 3) := by decide +kernel
theorem dL_threats_26 : decode cL_threats 26 = .ok (.iload_n 2, 1) := by decide +kernel
theorem dL_threats_27 : decode cL_threats 27 = .ok (.ifCond .ne 7, 3) := by decide +kernel
theorem dL_threats_30 : decode cL_threats 30 = .ok (.iconst 1, 1) := by decide +kernel
theorem dL_threats_31 : decode cL_threats 31 = .ok (.goto 4, 3) := by decide +kernel
theorem dL_threats_34 : decode cL_threats 34 = .ok (.iconst 0, 1) := by decide +kernel
theorem dL_threats_35 : decode cL_threats 35 = .ok (.ireturn, 1) := by decide +kernel
theorem dL_threats_36 : decode cL_threats 36 = .ok (.aload_n 0, 1) := by decide +kernel
theorem dL_threats_37 : decode cL_threats 37 = .ok (.iload_n 1, 1) := by decide +kernel
theorem dL_threats_38 : decode cL_threats 38 = .ok (.invokevirtual 132, 3) := by decide +kernel
theorem dL_threats_41 : decode cL_threats 41 = .ok (.iconst 1, 1) := by decide +kernel
theorem dL_threats_42 : decode cL_threats 42 = .ok (.if_icmp .ne 7, 3) := by decide +kernel
theorem dL_threats_45 : decode cL_threats 45 = .ok (.iconst 1, 1) := by decide +kernel
theorem dL_threats_46 : decode cL_threats 46 = .ok (.goto 4, 3) := by decide +kernel
theorem dL_threats_49 : decode cL_threats 49 = .ok (.iconst 0, 1) := by decide +kernel
theorem dL_threats_50 : decode cL_threats 50 = .ok (.iload_n 2, 1) := by decide +kernel
theorem dL_threats_51 : decode cL_threats 51 = .ok (.ifCond .le 7, 3) := by decide +kernel
theorem dL_threats_54 : decode cL_threats 54 = .ok (.iconst 1, 1) := by decide +kernel
theorem dL_threats_55 : decode cL_threats 55 = .ok (.goto 4, 3) := by decide +kernel
theorem dL_threats_58 : decode cL_threats 58 = .ok (.iconst 0, 1) := by decide +kernel
theorem dL_threats_59 : decode cL_threats 59 = .ok (.if_icmp .eq 5, 3) := by decide +kernel
theorem dL_threats_62 : decode cL_threats 62 = .ok (.iconst 0, 1) := by decide +kernel
theorem dL_threats_63 : decode cL_threats 63 = .ok (.ireturn, 1) := by decide +kernel
theorem dL_threats_64 : decode cL_threats 64 = .ok (.aload_n 0, 1) := by decide +kernel
theorem dL_threats_65 : decode cL_threats 65 = .ok (.iconst 0, 1) := by decide +kernel
theorem dL_threats_66 : decode cL_threats 66 = .ok (.invokevirtual 165, 3) := by decide +kernel
theorem dL_threats_69 : decode cL_threats 69 = .ok (.pop, 1) := by decide +kernel
theorem dL_threats_70 : decode cL_threats 70 = .ok (.iconst 0, 1) := by decide +kernel
theorem dL_threats_71 : decode cL_threats 71 = .ok (.istore_n 3, 1) := by decide +kernel
theorem dL_threats_72 : decode cL_threats 72 = .ok (.iload_n 3, 1) := by decide +kernel
theorem dL_threats_73 : decode cL_threats 73 = .ok (.iload_n 2, 1) := by decide +kernel
theorem dL_threats_74 : decode cL_threats 74 = .ok (.if_icmp .ge 65, 3) := by decide +kernel
theorem dL_threats_77 : decode cL_threats 77 = .ok (.aload_n 0, 1) := by decide +kernel
theorem dL_threats_78 : decode cL_threats 78 = .ok (.iload_n 1, 1) := by decide +kernel
theorem dL_threats_79 : decode cL_threats 79 = .ok (.iload_n 3, 1) := by decide +kernel
theorem dL_threats_80 : decode cL_threats 80 = .ok (.invokevirtual 162, 3) := by decide +kernel
theorem dL_threats_83 : decode cL_threats 83 = .ok (.istore 4, 2) := by decide +kernel
theorem dL_threats_85 : decode cL_threats 85 = .ok (.iload 4, 2) := by decide +kernel
theorem dL_threats_87 : decode cL_threats 87 = .ok (.iload_n 3, 1) := by decide +kernel
theorem dL_threats_88 : decode cL_threats 88 = .ok (.ifCond .ne 7, 3) := by decide +kernel
theorem dL_threats_91 : decode cL_threats 91 = .ok (.iconst (-1), 1) := by decide +kernel
theorem dL_threats_92 : decode cL_threats 92 = .ok (.goto 11, 3) := by decide +kernel
theorem dL_threats_95 : decode cL_threats 95 = .ok (.aload_n 0, 1) := by decide +kernel
theorem dL_threats_96 : decode cL_threats 96 = .ok (.iload_n 1, 1) := by decide +kernel
theorem dL_threats_97 : decode cL_threats 97 = .ok (.iload_n 3, 1) := by decide +kernel
theorem dL_threats_98 : decode cL_threats 98 = .ok (.iconst 1, 1) := by decide +kernel
theorem dL_threats_99 : decode cL_threats 99 = .ok (.isub, 1) := by decide +kernel
theorem dL_threats_100 : decode cL_threats 100 = .ok (.invokevirtual 162, 3) := by decide +kernel
theorem dL_threats_103 : decode cL_threats 103 = .ok (.if_icmp .le 22, 3) := by decide +kernel
theorem dL_threats_106 : decode cL_threats 106 = .ok (.aload_n 0, 1) := by decide +kernel
theorem dL_threats_107 : decode cL_threats 107 = .ok (.iload 4, 2) := by decide +kernel
theorem dL_threats_109 : decode cL_threats 109 = .ok (.iload_n 1, 1) := by decide +kernel
theorem dL_threats_110 : decode cL_threats 110 = .ok (.invokevirtual 80, 3) := by decide +kernel
theorem dL_threats_113 : decode cL_threats 113 = .ok (.iconst (-1), 1) := by decide +kernel
theorem dL_threats_114 : decode cL_threats 114 = .ok (.if_icmp .ne 11, 3) := by decide +kernel
theorem dL_threats_117 : decode cL_threats 117 = .ok (.aload_n 0, 1) := by decide +kernel
theorem dL_threats_118 : decode cL_threats 118 = .ok (.iload_n 1, 1) := by decide +kernel
theorem dL_threats_119 : decode cL_threats 119 = .ok (.invokevirtual 132, 3) := by decide +kernel
theorem dL_threats_122 : decode cL_threats 122 = .ok (.ifCond .eq 5, 3) := by decide +kernel
theorem dL_threats_125 : decode cL_threats 125 = .ok (.iconst 0, 1) := by decide +kernel
theorem dL_threats_126 : decode cL_threats 126 = .ok (.ireturn, 1) := by decide +kernel
theorem dL_threats_127 : decode cL_threats 127 = .ok (.aload_n 0, 1) := by decide +kernel
theorem dL_threats_128 : decode cL_threats 128 = .ok (.iconst 0, 1) := by decide +kernel
theorem dL_threats_129 : decode cL_threats 129 = .ok (.invokevirtual 168, 3) := by decide +kernel
theorem dL_threats_132 : decode cL_threats 132 = .ok (.pop, 1) := by decide +kernel
theorem dL_threats_133 : decode cL_threats 133 = .ok (.iinc 3 1, 3) := by decide +kernel
theorem dL_threats_136 : decode cL_threats 136 = .ok (.goto (-64), 3) := by decide +kernel
theorem dL_threats_139 : decode cL_threats 139 = .ok (.iconst 1, 1) := by decide +kernel
theorem dL_threats_140 : decode cL_threats 140 = .ok (.ireturn, 1) := by decide +kernel
theorem dL_foresees_0 : decode cL_foresees 0 = .ok (.aload_n 0, 1) := by decide +kernel
theorem dL_foresees_1 : decode cL_foresees 1 = .ok (.invokestatic 171, 3) := by decide +kernel
theorem dL_foresees_4 : decode cL_foresees 4 = .ok (.lstore_n 3, 1) := by decide +kernel
theorem dL_foresees_5 : decode cL_foresees 5 = .ok (.aload_n 1, 1) := by decide +kernel
theorem dL_foresees_6 : decode cL_foresees 6 = .ok (.iload_n 2, 1) := by decide +kernel
theorem dL_foresees_7 : decode cL_foresees 7 = .ok (.invokestatic 33, 3) := by decide +kernel
theorem dL_foresees_10 : decode cL_foresees 10 = .ok (.istore 5, 2) := by decide +kernel
theorem dL_foresees_12 : decode cL_foresees 12 = .ok (.iconst 1, 1) := by decide +kernel
theorem dL_foresees_13 : decode cL_foresees 13 = .ok (.aload_n 1, 1) := by decide +kernel
theorem dL_foresees_14 : decode cL_foresees 14 = .ok (.iload_n 2, 1) := by decide +kernel
theorem dL_foresees_15 : decode cL_foresees 15 = .ok (.iconst 1, 1) := by decide +kernel
theorem dL_foresees_16 : decode cL_foresees 16 = .ok (.iadd, 1) := by decide +kernel
theorem dL_foresees_17 : decode cL_foresees 17 = .ok (.invokestatic 33, 3) := by decide +kernel
theorem dL_foresees_20 : decode cL_foresees 20 = .ok (.iconst 5, 1) := by decide +kernel
theorem dL_foresees_21 : decode cL_foresees 21 = .ok (.irem, 1) := by decide +kernel
theorem dL_foresees_22 : decode cL_foresees 22 = .ok (.iadd, 1) := by decide +kernel
theorem dL_foresees_23 : decode cL_foresees 23 = .ok (.istore 6, 2) := by decide +kernel
theorem dL_foresees_25 : decode cL_foresees 25 = .ok (.aload_n 0, 1) := by decide +kernel
theorem dL_foresees_26 : decode cL_foresees 26 = .ok (.invokevirtual 175, 3) := by decide +kernel
theorem dL_foresees_29 : decode cL_foresees 29 = .ok (.istore 7, 2) := by decide +kernel
theorem dL_foresees_31 : decode cL_foresees 31 = .ok (.aload_n 0, 1) := by decide +kernel
theorem dL_foresees_32 : decode cL_foresees 32 = .ok (.invokevirtual 178, 3) := by decide +kernel
theorem dL_foresees_35 : decode cL_foresees 35 = .ok (.istore 8, 2) := by decide +kernel
theorem dL_foresees_37 : decode cL_foresees 37 = .ok (.aload_n 0, 1) := by decide +kernel
theorem dL_foresees_38 : decode cL_foresees 38 = .ok (.invokevirtual 181, 3) := by decide +kernel
theorem dL_foresees_41 : decode cL_foresees 41 = .ok (.istore 9, 2) := by decide +kernel
theorem dL_foresees_43 : decode cL_foresees 43 = .ok (.aload_n 0, 1) := by decide +kernel
theorem dL_foresees_44 : decode cL_foresees 44 = .ok (.invokevirtual 184, 3) := by decide +kernel
theorem dL_foresees_47 : decode cL_foresees 47 = .ok (.istore 10, 2) := by decide +kernel
theorem dL_foresees_49 : decode cL_foresees 49 = .ok (.aload_n 0, 1) := by decide +kernel
theorem dL_foresees_50 : decode cL_foresees 50 = .ok (.invokevirtual 187, 3) := by decide +kernel
theorem dL_foresees_53 : decode cL_foresees 53 = .ok (.istore 11, 2) := by decide +kernel
theorem dL_foresees_55 : decode cL_foresees 55 = .ok (.aload_n 0, 1) := by decide +kernel
theorem dL_foresees_56 : decode cL_foresees 56 = .ok (.invokevirtual 190, 3) := by decide +kernel
theorem dL_foresees_59 : decode cL_foresees 59 = .ok (.istore 12, 2) := by decide +kernel
theorem dL_foresees_61 : decode cL_foresees 61 = .ok (.aload_n 0, 1) := by decide +kernel
theorem dL_foresees_62 : decode cL_foresees 62 = .ok (.invokestatic 171, 3) := by decide +kernel
theorem dL_foresees_65 : decode cL_foresees 65 = .ok (.lload_n 3, 1) := by decide +kernel
theorem dL_foresees_66 : decode cL_foresees 66 = .ok (.lcmp, 1) := by decide +kernel
theorem dL_foresees_67 : decode cL_foresees 67 = .ok (.ifCond .ne 81, 3) := by decide +kernel
theorem dL_foresees_70 : decode cL_foresees 70 = .ok (.iload 8, 2) := by decide +kernel
theorem dL_foresees_72 : decode cL_foresees 72 = .ok (.ifCond .le 7, 3) := by decide +kernel
theorem dL_foresees_75 : decode cL_foresees 75 = .ok (.iconst 1, 1) := by decide +kernel
theorem dL_foresees_76 : decode cL_foresees 76 = .ok (.goto 4, 3) := by decide +kernel
theorem dL_foresees_79 : decode cL_foresees 79 = .ok (.iconst 0, 1) := by decide +kernel
theorem dL_foresees_80 : decode cL_foresees 80 = .ok (.iload 9, 2) := by decide +kernel
theorem dL_foresees_82 : decode cL_foresees 82 = .ok (.ifCond .lt 7, 3) := by decide +kernel
theorem dL_foresees_85 : decode cL_foresees 85 = .ok (.iconst 1, 1) := by decide +kernel
theorem dL_foresees_86 : decode cL_foresees 86 = .ok (.goto 4, 3) := by decide +kernel
theorem dL_foresees_89 : decode cL_foresees 89 = .ok (.iconst 0, 1) := by decide +kernel
theorem dL_foresees_90 : decode cL_foresees 90 = .ok (.if_icmp .ne 58, 3) := by decide +kernel
theorem dL_foresees_93 : decode cL_foresees 93 = .ok (.aload_n 0, 1) := by decide +kernel
theorem dL_foresees_94 : decode cL_foresees 94 = .ok (.iconst 0, 1) := by decide +kernel
theorem dL_foresees_95 : decode cL_foresees 95 = .ok (.iload 5, 2) := by decide +kernel
theorem dL_foresees_97 : decode cL_foresees 97 = .ok (.iload 6, 2) := by decide +kernel
theorem dL_foresees_99 : decode cL_foresees 99 = .ok (.invokevirtual 193, 3) := by decide +kernel
theorem dL_foresees_102 : decode cL_foresees 102 = .ok (.aload_n 0, 1) := by decide +kernel
theorem dL_foresees_103 : decode cL_foresees 103 = .ok (.iconst 1, 1) := by decide +kernel
theorem dL_foresees_104 : decode cL_foresees 104 = .ok (.iload 5, 2) := by decide +kernel
theorem dL_foresees_106 : decode cL_foresees 106 = .ok (.iload 6, 2) := by decide +kernel
theorem dL_foresees_108 : decode cL_foresees 108 = .ok (.invokevirtual 193, 3) := by decide +kernel
theorem dL_foresees_111 : decode cL_foresees 111 = .ok (.iadd, 1) := by decide +kernel
theorem dL_foresees_112 : decode cL_foresees 112 = .ok (.iload 6, 2) := by decide +kernel
theorem dL_foresees_114 : decode cL_foresees 114 = .ok (.if_icmp .ne 34, 3) := by decide +kernel
theorem dL_foresees_117 : decode cL_foresees 117 = .ok (.aload_n 0, 1) := by decide +kernel
theorem dL_foresees_118 : decode cL_foresees 118 = .ok (.aload_n 0, 1) := by decide +kernel
theorem dL_foresees_119 : decode cL_foresees 119 = .ok (.iload 5, 2) := by decide +kernel
theorem dL_foresees_121 : decode cL_foresees 121 = .ok (.invokevirtual 196, 3) := by decide +kernel
theorem dL_foresees_124 : decode cL_foresees 124 = .ok (.iload 5, 2) := by decide +kernel
theorem dL_foresees_126 : decode cL_foresees 126 = .ok (.iconst 1, 1) := by decide +kernel
theorem dL_foresees_127 : decode cL_foresees 127 = .ok (.invokevirtual 193, 3) := by decide +kernel
theorem dL_foresees_130 : decode cL_foresees 130 = .ok (.iconst 1, 1) := by decide +kernel
theorem dL_foresees_131 : decode cL_foresees 131 = .ok (.if_icmp .ne 17, 3) := by decide +kernel
theorem dL_foresees_134 : decode cL_foresees 134 = .ok (.aload_n 0, 1) := by decide +kernel
theorem dL_foresees_135 : decode cL_foresees 135 = .ok (.iload 5, 2) := by decide +kernel
theorem dL_foresees_137 : decode cL_foresees 137 = .ok (.invokevirtual 199, 3) := by decide +kernel
theorem dL_foresees_140 : decode cL_foresees 140 = .ok (.aload_n 0, 1) := by decide +kernel
theorem dL_foresees_141 : decode cL_foresees 141 = .ok (.iconst 3, 1) := by decide +kernel
theorem dL_foresees_142 : decode cL_foresees 142 = .ok (.invokevirtual 74, 3) := by decide +kernel
theorem dL_foresees_145 : decode cL_foresees 145 = .ok (.if_icmp .le 5, 3) := by decide +kernel
theorem dL_foresees_148 : decode cL_foresees 148 = .ok (.iconst 0, 1) := by decide +kernel
theorem dL_foresees_149 : decode cL_foresees 149 = .ok (.ireturn, 1) := by decide +kernel
theorem dL_foresees_150 : decode cL_foresees 150 = .ok (.aload_n 0, 1) := by decide +kernel
theorem dL_foresees_151 : decode cL_foresees 151 = .ok (.iconst 0, 1) := by decide +kernel
theorem dL_foresees_152 : decode cL_foresees 152 = .ok (.invokevirtual 165, 3) := by decide +kernel
theorem dL_foresees_155 : decode cL_foresees 155 = .ok (.pop, 1) := by decide +kernel
theorem dL_foresees_156 : decode cL_foresees 156 = .ok (.aload_n 0, 1) := by decide +kernel
theorem dL_foresees_157 : decode cL_foresees 157 = .ok (.bipush 81, 2) := by decide +kernel
theorem dL_foresees_159 : decode cL_foresees 159 = .ok (.invokevirtual 93, 3) := by decide +kernel
theorem dL_foresees_162 : decode cL_foresees 162 = .ok (.iload 8, 2) := by decide +kernel
theorem dL_foresees_164 : decode cL_foresees 164 = .ok (.if_icmp .ne 36, 3) := by decide +kernel
theorem dL_foresees_167 : decode cL_foresees 167 = .ok (.aload_n 0, 1) := by decide +kernel
theorem dL_foresees_168 : decode cL_foresees 168 = .ok (.bipush 6, 2) := by decide +kernel
theorem dL_foresees_170 : decode cL_foresees 170 = .ok (.invokevirtual 74, 3) := by decide +kernel
theorem dL_foresees_173 : decode cL_foresees 173 = .ok (.iload 7, 2) := by decide +kernel
theorem dL_foresees_175 : decode cL_foresees 175 = .ok (.if_icmp .ne 25, 3) := by decide +kernel
theorem dL_foresees_178 : decode cL_foresees 178 = .ok (.iload 8, 2) := by decide +kernel
theorem dL_foresees_180 : decode cL_foresees 180 = .ok (.ifCond .le 22, 3) := by decide +kernel
theorem dL_foresees_183 : decode cL_foresees 183 = .ok (.aload_n 0, 1) := by decide +kernel
theorem dL_foresees_184 : decode cL_foresees 184 = .ok (.aload_n 0, 1) := by decide +kernel
theorem dL_foresees_185 : decode cL_foresees 185 = .ok (.iconst 4, 1) := by decide +kernel
theorem dL_foresees_186 : decode cL_foresees 186 = .ok (.invokevirtual 74, 3) := by decide +kernel
theorem dL_foresees_189 : decode cL_foresees 189 = .ok (.iload 8, 2) := by decide +kernel
theorem dL_foresees_191 : decode cL_foresees 191 = .ok (.isub, 1) := by decide +kernel
theorem dL_foresees_192 : decode cL_foresees 192 = .ok (.invokevirtual 102, 3) := by decide +kernel
theorem dL_foresees_195 : decode cL_foresees 195 = .ok (.iload 9, 2) := by decide +kernel
theorem dL_foresees_197 : decode cL_foresees 197 = .ok (.if_icmp .eq 5, 3) := by decide +kernel
theorem dL_foresees_200 : decode cL_foresees 200 = .ok (.iconst 0, 1) := by decide +kernel
theorem dL_foresees_201 : decode cL_foresees 201 = .ok (.ireturn, 1) := by decide +kernel
theorem dL_foresees_202 : decode cL_foresees 202 = .ok (.aload_n 0, 1) := by decide +kernel
theorem dL_foresees_203 : decode cL_foresees 203 = .ok (.iconst 0, 1) := by decide +kernel
theorem dL_foresees_204 : decode cL_foresees 204 = .ok (.invokevirtual 168, 3) := by decide +kernel
theorem dL_foresees_207 : decode cL_foresees 207 = .ok (.pop, 1) := by decide +kernel
theorem dL_foresees_208 : decode cL_foresees 208 = .ok (.aload_n 0, 1) := by decide +kernel
theorem dL_foresees_209 : decode cL_foresees 209 = .ok (.bipush 6, 2) := by decide +kernel
theorem dL_foresees_211 : decode cL_foresees 211 = .ok (.invokevirtual 74, 3) := by decide +kernel
theorem dL_foresees_214 : decode cL_foresees 214 = .ok (.iconst (-1), 1) := by decide +kernel
theorem dL_foresees_215 : decode cL_foresees 215 = .ok (.if_icmp .ne 108, 3) := by decide +kernel
theorem dL_foresees_218 : decode cL_foresees 218 = .ok (.aload_n 0, 1) := by decide +kernel
theorem dL_foresees_219 : decode cL_foresees 219 = .ok (.iconst 3, 1) := by decide +kernel
theorem dL_foresees_220 : decode cL_foresees 220 = .ok (.invokevirtual 74, 3) := by decide +kernel
theorem dL_foresees_223 : decode cL_foresees 223 = .ok (.bipush 6, 2) := by decide +kernel
theorem dL_foresees_225 : decode cL_foresees 225 = .ok (.if_icmp .gt 98, 3) := by decide +kernel
theorem dL_foresees_228 : decode cL_foresees 228 = .ok (.aload_n 0, 1) := by decide +kernel
theorem dL_foresees_229 : decode cL_foresees 229 = .ok (.iconst 5, 1) := by decide +kernel
theorem dL_foresees_230 : decode cL_foresees 230 = .ok (.invokevirtual 74, 3) := by decide +kernel
theorem dL_foresees_233 : decode cL_foresees 233 = .ok (.istore 13, 2) := by decide +kernel
theorem dL_foresees_235 : decode cL_foresees 235 = .ok (.iload 10, 2) := by decide +kernel
theorem dL_foresees_237 : decode cL_foresees 237 = .ok (.iload 13, 2) := by decide +kernel
theorem dL_foresees_239 : decode cL_foresees 239 = .ok (.if_icmp .ne 7, 3) := by decide +kernel
theorem dL_foresees_242 : decode cL_foresees 242 = .ok (.iconst 1, 1) := by decide +kernel
theorem dL_foresees_243 : decode cL_foresees 243 = .ok (.goto 4, 3) := by decide +kernel
theorem dL_foresees_246 : decode cL_foresees 246 = .ok (.iconst 0, 1) := by decide +kernel
theorem dL_foresees_247 : decode cL_foresees 247 = .ok (.iload 11, 2) := by decide +kernel
theorem dL_foresees_249 : decode cL_foresees 249 = .ok (.ifCond .le 7, 3) := by decide +kernel
theorem dL_foresees_252 : decode cL_foresees 252 = .ok (.iconst 1, 1) := by decide +kernel
theorem dL_foresees_253 : decode cL_foresees 253 = .ok (.goto 4, 3) := by decide +kernel
theorem dL_foresees_256 : decode cL_foresees 256 = .ok (.iconst 0, 1) := by decide +kernel
theorem dL_foresees_257 : decode cL_foresees 257 = .ok (.if_icmp .ne 26, 3) := by decide +kernel
theorem dL_foresees_260 : decode cL_foresees 260 = .ok (.iload 12, 2) := by decide +kernel
theorem dL_foresees_262 : decode cL_foresees 262 = .ok (.ifCond .lt 7, 3) := by decide +kernel
theorem dL_foresees_265 : decode cL_foresees 265 = .ok (.iconst 1, 1) := by decide +kernel
theorem dL_foresees_266 : decode cL_foresees 266 = .ok (.goto 4, 3) := by decide +kernel
theorem dL_foresees_269 : decode cL_foresees 269 = .ok (.iconst 0, 1) := by decide +kernel
theorem dL_foresees_270 : decode cL_foresees 270 = .ok (.iload 11, 2) := by decide +kernel
theorem dL_foresees_272 : decode cL_foresees 272 = .ok (.ifCond .le 7, 3) := by decide +kernel
theorem dL_foresees_275 : decode cL_foresees 275 = .ok (.iconst 1, 1) := by decide +kernel
theorem dL_foresees_276 : decode cL_foresees 276 = .ok (.goto 4, 3) := by decide +kernel
theorem dL_foresees_279 : decode cL_foresees 279 = .ok (.iconst 0, 1) := by decide +kernel
theorem dL_foresees_280 : decode cL_foresees 280 = .ok (.if_icmp .eq 5, 3) := by decide +kernel
theorem dL_foresees_283 : decode cL_foresees 283 = .ok (.iconst 0, 1) := by decide +kernel
theorem dL_foresees_284 : decode cL_foresees 284 = .ok (.ireturn, 1) := by decide +kernel
theorem dL_foresees_285 : decode cL_foresees 285 = .ok (.iload 12, 2) := by decide +kernel
theorem dL_foresees_287 : decode cL_foresees 287 = .ok (.ifCond .lt 27, 3) := by decide +kernel
theorem dL_foresees_290 : decode cL_foresees 290 = .ok (.aload_n 0, 1) := by decide +kernel
theorem dL_foresees_291 : decode cL_foresees 291 = .ok (.iload 12, 2) := by decide +kernel
theorem dL_foresees_293 : decode cL_foresees 293 = .ok (.invokevirtual 77, 3) := by decide +kernel
theorem dL_foresees_296 : decode cL_foresees 296 = .ok (.iconst 1, 1) := by decide +kernel
theorem dL_foresees_297 : decode cL_foresees 297 = .ok (.iload 13, 2) := by decide +kernel
theorem dL_foresees_299 : decode cL_foresees 299 = .ok (.isub, 1) := by decide +kernel
theorem dL_foresees_300 : decode cL_foresees 300 = .ok (.if_icmp .eq 12, 3) := by decide +kernel
theorem dL_foresees_303 : decode cL_foresees 303 = .ok (.aload_n 0, 1) := by decide +kernel
theorem dL_foresees_304 : decode cL_foresees 304 = .ok (.invokevirtual 184, 3) := by decide +kernel
theorem dL_foresees_307 : decode cL_foresees 307 = .ok (.iload 13, 2) := by decide +kernel
theorem dL_foresees_309 : decode cL_foresees 309 = .ok (.if_icmp .eq 5, 3) := by decide +kernel
theorem dL_foresees_312 : decode cL_foresees 312 = .ok (.iconst 0, 1) := by decide +kernel
theorem dL_foresees_313 : decode cL_foresees 313 = .ok (.ireturn, 1) := by decide +kernel
theorem dL_foresees_314 : decode cL_foresees 314 = .ok (.aload_n 0, 1) := by decide +kernel
theorem dL_foresees_315 : decode cL_foresees 315 = .ok (.iconst 0, 1) := by decide +kernel
theorem dL_foresees_316 : decode cL_foresees 316 = .ok (.invokevirtual 168, 3) := by decide +kernel
theorem dL_foresees_319 : decode cL_foresees 319 = .ok (.pop, 1) := by decide +kernel
theorem dL_foresees_320 : decode cL_foresees 320 = .ok (.goto 42, 3) := by decide +kernel
theorem dL_foresees_323 : decode cL_foresees 323 = .ok (.iload 10, 2) := by decide +kernel
theorem dL_foresees_325 : decode cL_foresees 325 = .ok (.aload_n 0, 1) := by decide +kernel
theorem dL_foresees_326 : decode cL_foresees 326 = .ok (.bipush 6, 2) := by decide +kernel
theorem dL_foresees_328 : decode cL_foresees 328 = .ok (.invokevirtual 74, 3) := by decide +kernel
theorem dL_foresees_331 : decode cL_foresees 331 = .ok (.if_icmp .ne 29, 3) := by decide +kernel
theorem dL_foresees_334 : decode cL_foresees 334 = .ok (.iload 12, 2) := by decide +kernel
theorem dL_foresees_336 : decode cL_foresees 336 = .ok (.iconst (-1), 1) := by decide +kernel
theorem dL_foresees_337 : decode cL_foresees 337 = .ok (.if_icmp .ne 23, 3) := by decide +kernel
theorem dL_foresees_340 : decode cL_foresees 340 = .ok (.iload 11, 2) := by decide +kernel
theorem dL_foresees_342 : decode cL_foresees 342 = .ok (.aload_n 0, 1) := by decide +kernel
theorem dL_foresees_343 : decode cL_foresees 343 = .ok (.bipush 6, 2) := by decide +kernel
theorem dL_foresees_345 : decode cL_foresees 345 = .ok (.invokevirtual 74, 3) := by decide +kernel
theorem dL_foresees_348 : decode cL_foresees 348 = .ok (.iconst (-1), 1) := by decide +kernel
theorem dL_foresees_349 : decode cL_foresees 349 = .ok (.if_icmp .ne 7, 3) := by decide +kernel
theorem dL_foresees_352 : decode cL_foresees 352 = .ok (.iconst (-1), 1) := by decide +kernel
theorem dL_foresees_353 : decode cL_foresees 353 = .ok (.goto 4, 3) := by decide +kernel
theorem dL_foresees_356 : decode cL_foresees 356 = .ok (.iconst 0, 1) := by decide +kernel
theorem dL_foresees_357 : decode cL_foresees 357 = .ok (.if_icmp .eq 5, 3) := by decide +kernel
theorem dL_foresees_360 : decode cL_foresees 360 = .ok (.iconst 0, 1) := by decide +kernel
theorem dL_foresees_361 : decode cL_foresees 361 = .ok (.ireturn, 1) := by decide +kernel
theorem dL_foresees_362 : decode cL_foresees 362 = .ok (.aload_n 0, 1) := by decide +kernel
theorem dL_foresees_363 : decode cL_foresees 363 = .ok (.invokestatic 171, 3) := by decide +kernel
theorem dL_foresees_366 : decode cL_foresees 366 = .ok (.lload_n 3, 1) := by decide +kernel
theorem dL_foresees_367 : decode cL_foresees 367 = .ok (.lcmp, 1) := by decide +kernel
theorem dL_foresees_368 : decode cL_foresees 368 = .ok (.ifCond .ne 7, 3) := by decide +kernel
theorem dL_foresees_371 : decode cL_foresees 371 = .ok (.iconst 1, 1) := by decide +kernel
theorem dL_foresees_372 : decode cL_foresees 372 = .ok (.goto 4, 3) := by decide +kernel
theorem dL_foresees_375 : decode cL_foresees 375 = .ok (.iconst 0, 1) := by decide +kernel
theorem dL_foresees_376 : decode cL_foresees 376 = .ok (.ireturn, 1) := by decide +kernel
theorem dL_agrees_0 : decode cL_agrees 0 = .ok (.aload_n 0, 1) := by decide +kernel
theorem dL_agrees_1 : decode cL_agrees 1 = .ok (.iconst 1, 1) := by decide +kernel
theorem dL_agrees_2 : decode cL_agrees 2 = .ok (.invokevirtual 74, 3) := by decide +kernel
theorem dL_agrees_5 : decode cL_agrees 5 = .ok (.aload_n 0, 1) := by decide +kernel
theorem dL_agrees_6 : decode cL_agrees 6 = .ok (.iconst 2, 1) := by decide +kernel
theorem dL_agrees_7 : decode cL_agrees 7 = .ok (.invokevirtual 74, 3) := by decide +kernel
theorem dL_agrees_10 : decode cL_agrees 10 = .ok (.iadd, 1) := by decide +kernel
theorem dL_agrees_11 : decode cL_agrees 11 = .ok (.aload_n 0, 1) := by decide +kernel
theorem dL_agrees_12 : decode cL_agrees 12 = .ok (.iconst 3, 1) := by decide +kernel
theorem dL_agrees_13 : decode cL_agrees 13 = .ok (.invokevirtual 74, 3) := by decide +kernel
theorem dL_agrees_16 : decode cL_agrees 16 = .ok (.iadd, 1) := by decide +kernel
theorem dL_agrees_17 : decode cL_agrees 17 = .ok (.aload_n 0, 1) := by decide +kernel
theorem dL_agrees_18 : decode cL_agrees 18 = .ok (.iconst 0, 1) := by decide +kernel
theorem dL_agrees_19 : decode cL_agrees 19 = .ok (.invokevirtual 74, 3) := by decide +kernel
theorem dL_agrees_22 : decode cL_agrees 22 = .ok (.aload_n 0, 1) := by decide +kernel
theorem dL_agrees_23 : decode cL_agrees 23 = .ok (.iconst 0, 1) := by decide +kernel
theorem dL_agrees_24 : decode cL_agrees 24 = .ok (.invokevirtual 74, 3) := by decide +kernel
theorem dL_agrees_27 : decode cL_agrees 27 = .ok (.imul, 1) := by decide +kernel
theorem dL_agrees_28 : decode cL_agrees 28 = .ok (.if_icmp .eq 5, 3) := by decide +kernel
theorem dL_agrees_31 : decode cL_agrees 31 = .ok (.iconst 0, 1) := by decide +kernel
theorem dL_agrees_32 : decode cL_agrees 32 = .ok (.ireturn, 1) := by decide +kernel
theorem dL_agrees_33 : decode cL_agrees 33 = .ok (.iconst 0, 1) := by decide +kernel
theorem dL_agrees_34 : decode cL_agrees 34 = .ok (.istore_n 1, 1) := by decide +kernel
theorem dL_agrees_35 : decode cL_agrees 35 = .ok (.iload_n 1, 1) := by decide +kernel
theorem dL_agrees_36 : decode cL_agrees 36 = .ok (.iconst 2, 1) := by decide +kernel
theorem dL_agrees_37 : decode cL_agrees 37 = .ok (.if_icmp .ge 43, 3) := by decide +kernel
theorem dL_agrees_40 : decode cL_agrees 40 = .ok (.aload_n 0, 1) := by decide +kernel
theorem dL_agrees_41 : decode cL_agrees 41 = .ok (.iload_n 1, 1) := by decide +kernel
theorem dL_agrees_42 : decode cL_agrees 42 = .ok (.invokestatic 202, 3) := by decide +kernel
theorem dL_agrees_45 : decode cL_agrees 45 = .ok (.ifCond .eq 27, 3) := by decide +kernel
theorem dL_agrees_48 : decode cL_agrees 48 = .ok (.aload_n 0, 1) := by decide +kernel
theorem dL_agrees_49 : decode cL_agrees 49 = .ok (.iload_n 1, 1) := by decide +kernel
theorem dL_agrees_50 : decode cL_agrees 50 = .ok (.invokestatic 205, 3) := by decide +kernel
theorem dL_agrees_53 : decode cL_agrees 53 = .ok (.ifCond .eq 19, 3) := by decide +kernel
theorem dL_agrees_56 : decode cL_agrees 56 = .ok (.aload_n 0, 1) := by decide +kernel
theorem dL_agrees_57 : decode cL_agrees 57 = .ok (.iload_n 1, 1) := by decide +kernel
theorem dL_agrees_58 : decode cL_agrees 58 = .ok (.invokestatic 207, 3) := by decide +kernel
theorem dL_agrees_61 : decode cL_agrees 61 = .ok (.ifCond .eq 11, 3) := by decide +kernel
theorem dL_agrees_64 : decode cL_agrees 64 = .ok (.aload_n 0, 1) := by decide +kernel
theorem dL_agrees_65 : decode cL_agrees 65 = .ok (.iload_n 1, 1) := by decide +kernel
theorem dL_agrees_66 : decode cL_agrees 66 = .ok (.invokestatic 210, 3) := by decide +kernel
theorem dL_agrees_69 : decode cL_agrees 69 = .ok (.ifCond .ne 5, 3) := by decide +kernel
theorem dL_agrees_72 : decode cL_agrees 72 = .ok (.iconst 0, 1) := by decide +kernel
theorem dL_agrees_73 : decode cL_agrees 73 = .ok (.ireturn, 1) := by decide +kernel
theorem dL_agrees_74 : decode cL_agrees 74 = .ok (.iinc 1 1, 3) := by decide +kernel
theorem dL_agrees_77 : decode cL_agrees 77 = .ok (.goto (-42), 3) := by decide +kernel
theorem dL_agrees_80 : decode cL_agrees 80 = .ok (.iconst 1, 1) := by decide +kernel
theorem dL_agrees_81 : decode cL_agrees 81 = .ok (.ireturn, 1) := by decide +kernel
theorem dL_law_0 : decode cL_law 0 = .ok (.new 25, 3) := by decide +kernel
theorem dL_law_3 : decode cL_law 3 = .ok (.dup, 1) := by decide +kernel
theorem dL_law_4 : decode cL_law 4 = .ok (.invokespecial 212, 3) := by decide +kernel
theorem dL_law_7 : decode cL_law 7 = .ok (.astore_n 1, 1) := by decide +kernel
theorem dL_law_8 : decode cL_law 8 = .ok (.aload_n 1, 1) := by decide +kernel
theorem dL_law_9 : decode cL_law 9 = .ok (.aload_n 0, 1) := by decide +kernel
theorem dL_law_10 : decode cL_law 10 = .ok (.invokestatic 213, 3) := by decide +kernel
theorem dL_law_13 : decode cL_law 13 = .ok (.ifCond .ge 5, 3) := by decide +kernel
theorem dL_law_16 : decode cL_law 16 = .ok (.iconst 0, 1) := by decide +kernel
theorem dL_law_17 : decode cL_law 17 = .ok (.ireturn, 1) := by decide +kernel
theorem dL_law_18 : decode cL_law 18 = .ok (.iconst 0, 1) := by decide +kernel
theorem dL_law_19 : decode cL_law 19 = .ok (.istore_n 2, 1) := by decide +kernel
theorem dL_law_20 : decode cL_law 20 = .ok (.iload_n 2, 1) := by decide +kernel
theorem dL_law_21 : decode cL_law 21 = .ok (.bipush 14, 2) := by decide +kernel
theorem dL_law_23 : decode cL_law 23 = .ok (.if_icmp .ge 20, 3) := by decide +kernel
theorem dL_law_26 : decode cL_law 26 = .ok (.aload_n 1, 1) := by decide +kernel
theorem dL_law_27 : decode cL_law 27 = .ok (.aload_n 0, 1) := by decide +kernel
theorem dL_law_28 : decode cL_law 28 = .ok (.bipush 22, 2) := by decide +kernel
theorem dL_law_30 : decode cL_law 30 = .ok (.iconst 3, 1) := by decide +kernel
theorem dL_law_31 : decode cL_law 31 = .ok (.iload_n 2, 1) := by decide +kernel
theorem dL_law_32 : decode cL_law 32 = .ok (.imul, 1) := by decide +kernel
theorem dL_law_33 : decode cL_law 33 = .ok (.iadd, 1) := by decide +kernel
theorem dL_law_34 : decode cL_law 34 = .ok (.invokestatic 217, 3) := by decide +kernel
theorem dL_law_37 : decode cL_law 37 = .ok (.iinc 2 1, 3) := by decide +kernel
theorem dL_law_40 : decode cL_law 40 = .ok (.goto (-20), 3) := by decide +kernel
theorem dL_law_43 : decode cL_law 43 = .ok (.aload_n 1, 1) := by decide +kernel
theorem dL_law_44 : decode cL_law 44 = .ok (.invokestatic 221, 3) := by decide +kernel
theorem dL_law_47 : decode cL_law 47 = .ok (.ifCond .eq 17, 3) := by decide +kernel
theorem dL_law_50 : decode cL_law 50 = .ok (.aload_n 1, 1) := by decide +kernel
theorem dL_law_51 : decode cL_law 51 = .ok (.aload_n 0, 1) := by decide +kernel
theorem dL_law_52 : decode cL_law 52 = .ok (.bipush 70, 2) := by decide +kernel
theorem dL_law_54 : decode cL_law 54 = .ok (.invokestatic 225, 3) := by decide +kernel
theorem dL_law_57 : decode cL_law 57 = .ok (.ifCond .eq 7, 3) := by decide +kernel
theorem dL_law_60 : decode cL_law 60 = .ok (.iconst 1, 1) := by decide +kernel
theorem dL_law_61 : decode cL_law 61 = .ok (.goto 4, 3) := by decide +kernel
theorem dL_law_64 : decode cL_law 64 = .ok (.iconst 0, 1) := by decide +kernel
theorem dL_law_65 : decode cL_law 65 = .ok (.ireturn, 1) := by decide +kernel
