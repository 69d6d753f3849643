theorem dJ7_copyOf_1904c_0 : decode cJ7_copyOf_1904c 0 = .ok (.aload_n 0, 1) := by decide +kernel
theorem dJ7_copyOf_1904c_1 : decode cJ7_copyOf_1904c 1 = .ok (.iload_n 1, 1) := by decide +kernel
theorem dJ7_copyOf_1904c_2 : decode cJ7_copyOf_1904c 2 = .ok (.aload_n 0, 1) := by decide +kernel
theorem dJ7_copyOf_1904c_3 : decode cJ7_copyOf_1904c 3 = .ok (.invokevirtual 86, 3) := by decide +kernel
theorem dJ7_copyOf_1904c_6 : decode cJ7_copyOf_1904c 6 = .ok (.invokestatic 300, 3) := by decide +kernel
theorem dJ7_copyOf_1904c_9 : decode cJ7_copyOf_1904c 9 = .ok (.areturn, 1) := by decide +kernel
theorem dJ7_copyOf_6403c_0 : decode cJ7_copyOf_6403c 0 = .ok (.aload_n 2, 1) := by decide +kernel
theorem dJ7_copyOf_6403c_1 : decode cJ7_copyOf_6403c 1 = .ok (.ldc 110, 2) := by decide +kernel
theorem dJ7_copyOf_6403c_3 : decode cJ7_copyOf_6403c 3 = .ok (.if_acmp .ne 10, 3) := by decide +kernel
theorem dJ7_copyOf_6403c_6 : decode cJ7_copyOf_6403c 6 = .ok (.iload_n 1, 1) := by decide +kernel
theorem dJ7_copyOf_6403c_7 : decode cJ7_copyOf_6403c 7 = .ok (.anewarray 2, 3) := by decide +kernel
theorem dJ7_copyOf_6403c_10 : decode cJ7_copyOf_6403c 10 = .ok (.goto 14, 3) := by decide +kernel
theorem dJ7_copyOf_6403c_13 : decode cJ7_copyOf_6403c 13 = .ok (.aload_n 2, 1) := by decide +kernel
theorem dJ7_copyOf_6403c_14 : decode cJ7_copyOf_6403c 14 = .ok (.invokevirtual 90, 3) := by decide +kernel
theorem dJ7_copyOf_6403c_17 : decode cJ7_copyOf_6403c 17 = .ok (.iload_n 1, 1) := by decide +kernel
theorem dJ7_copyOf_6403c_18 : decode cJ7_copyOf_6403c 18 = .ok (.invokestatic 95, 3) := by decide +kernel
theorem dJ7_copyOf_6403c_21 : decode cJ7_copyOf_6403c 21 = .ok (.checkcast 110, 3) := by decide +kernel
theorem dJ7_copyOf_6403c_24 : decode cJ7_copyOf_6403c 24 = .ok (.astore_n 3, 1) := by decide +kernel
theorem dJ7_copyOf_6403c_25 : decode cJ7_copyOf_6403c 25 = .ok (.aload_n 0, 1) := by decide +kernel
theorem dJ7_copyOf_6403c_26 : decode cJ7_copyOf_6403c 26 = .ok (.iconst 0, 1) := by decide +kernel
theorem dJ7_copyOf_6403c_27 : decode cJ7_copyOf_6403c 27 = .ok (.aload_n 3, 1) := by decide +kernel
theorem dJ7_copyOf_6403c_28 : decode cJ7_copyOf_6403c 28 = .ok (.iconst 0, 1) := by decide +kernel
theorem dJ7_copyOf_6403c_29 : decode cJ7_copyOf_6403c 29 = .ok (.aload_n 0, 1) := by decide +kernel
theorem dJ7_copyOf_6403c_30 : decode cJ7_copyOf_6403c 30 = .ok (.arraylength, 1) := by decide +kernel
theorem dJ7_copyOf_6403c_31 : decode cJ7_copyOf_6403c 31 = .ok (.iload_n 1, 1) := by decide +kernel
theorem dJ7_copyOf_6403c_32 : decode cJ7_copyOf_6403c 32 = .ok (.invokestatic 304, 3) := by decide +kernel
theorem dJ7_copyOf_6403c_35 : decode cJ7_copyOf_6403c 35 = .ok (.invokestatic 150, 3) := by decide +kernel
theorem dJ7_copyOf_6403c_38 : decode cJ7_copyOf_6403c 38 = .ok (.aload_n 3, 1) := by decide +kernel
theorem dJ7_copyOf_6403c_39 : decode cJ7_copyOf_6403c 39 = .ok (.areturn, 1) := by decide +kernel
theorem dJxa1e45_init_da8c8_0 : decode cJxa1e45_init_da8c8 0 = .ok (.aload_n 0, 1) := by decide +kernel
theorem dJxa1e45_init_da8c8_1 : decode cJxa1e45_init_da8c8 1 = .ok (.invokespecial 1, 3) := by decide +kernel
theorem dJxa1e45_init_da8c8_4 : decode cJxa1e45_init_da8c8 4 = .ok (.return_, 1) := by decide +kernel
theorem dJxc12de_init_da8c8_0 : decode cJxc12de_init_da8c8 0 = .ok (.aload_n 0, 1) := by decide +kernel
theorem dJxc12de_init_da8c8_1 : decode cJxc12de_init_da8c8 1 = .ok (.invokespecial 1, 3) := by decide +kernel
theorem dJxc12de_init_da8c8_4 : decode cJxc12de_init_da8c8 4 = .ok (.aload_n 0, 1) := by decide +kernel
theorem dJxc12de_init_da8c8_5 : decode cJxc12de_init_da8c8 5 = .ok (.iconst 0, 1) := by decide +kernel
theorem dJxc12de_init_da8c8_6 : decode cJxc12de_init_da8c8 6 = .ok (.putfield 7, 3) := by decide +kernel
theorem dJxc12de_init_da8c8_9 : decode cJxc12de_init_da8c8 9 = .ok (.return_, 1) := by decide +kernel
theorem dJx4a65c_init_da8c8_0 : decode cJx4a65c_init_da8c8 0 = .ok (.aload_n 0, 1) := by decide +kernel
theorem dJx4a65c_init_da8c8_1 : decode cJx4a65c_init_da8c8 1 = .ok (.invokespecial 1, 3) := by decide +kernel
theorem dJx4a65c_init_da8c8_4 : decode cJx4a65c_init_da8c8 4 = .ok (.aload_n 0, 1) := by decide +kernel
theorem dJx4a65c_init_da8c8_5 : decode cJx4a65c_init_da8c8 5 = .ok (.getstatic 39, 3) := by decide +kernel
theorem dJx4a65c_init_da8c8_8 : decode cJx4a65c_init_da8c8 8 = .ok (.putfield 9, 3) := by decide +kernel
theorem dJx4a65c_init_da8c8_11 : decode cJx4a65c_init_da8c8 11 = .ok (.return_, 1) := by decide +kernel
theorem dJx4a65c_size_8abf5_0 : decode cJx4a65c_size_8abf5 0 = .ok (.aload_n 0, 1) := by decide +kernel
theorem dJx4a65c_size_8abf5_1 : decode cJx4a65c_size_8abf5 1 = .ok (.getfield 48, 3) := by decide +kernel
theorem dJx4a65c_size_8abf5_4 : decode cJx4a65c_size_8abf5 4 = .ok (.ireturn, 1) := by decide +kernel
theorem dJ8_hugeLength_7cf53_0 : decode cJ8_hugeLength_7cf53 0 = .ok (.iload_n 0, 1) := by decide +kernel
theorem dJ8_hugeLength_7cf53_1 : decode cJ8_hugeLength_7cf53 1 = .ok (.iload_n 1, 1) := by decide +kernel
theorem dJ8_hugeLength_7cf53_2 : decode cJ8_hugeLength_7cf53 2 = .ok (.iadd, 1) := by decide +kernel
theorem dJ8_hugeLength_7cf53_3 : decode cJ8_hugeLength_7cf53 3 = .ok (.istore_n 2, 1) := by decide +kernel
theorem dJ8_hugeLength_7cf53_4 : decode cJ8_hugeLength_7cf53 4 = .ok (.iload_n 2, 1) := by decide +kernel
theorem dJ8_hugeLength_7cf53_5 : decode cJ8_hugeLength_7cf53 5 = .ok (.ifCond .ge 44, 3) := by decide +kernel
theorem dJ8_hugeLength_7cf53_8 : decode cJ8_hugeLength_7cf53 8 = .ok (.new 204, 3) := by decide +kernel
theorem dJ8_hugeLength_7cf53_11 : decode cJ8_hugeLength_7cf53 11 = .ok (.dup, 1) := by decide +kernel
theorem dJ8_hugeLength_7cf53_12 : decode cJ8_hugeLength_7cf53 12 = .ok (.new 89, 3) := by decide +kernel
theorem dJ8_hugeLength_7cf53_15 : decode cJ8_hugeLength_7cf53 15 = .ok (.dup, 1) := by decide +kernel
theorem dJ8_hugeLength_7cf53_16 : decode cJ8_hugeLength_7cf53 16 = .ok (.invokespecial 91, 3) := by decide +kernel
theorem dJ8_hugeLength_7cf53_19 : decode cJ8_hugeLength_7cf53 19 = .ok (.ldc 206, 2) := by decide +kernel
theorem dJ8_hugeLength_7cf53_21 : decode cJ8_hugeLength_7cf53 21 = .ok (.invokevirtual 94, 3) := by decide +kernel
theorem dJ8_hugeLength_7cf53_24 : decode cJ8_hugeLength_7cf53 24 = .ok (.iload_n 0, 1) := by decide +kernel
theorem dJ8_hugeLength_7cf53_25 : decode cJ8_hugeLength_7cf53 25 = .ok (.invokevirtual 98, 3) := by decide +kernel
theorem dJ8_hugeLength_7cf53_28 : decode cJ8_hugeLength_7cf53 28 = .ok (.ldc 208, 2) := by decide +kernel
theorem dJ8_hugeLength_7cf53_30 : decode cJ8_hugeLength_7cf53 30 = .ok (.invokevirtual 94, 3) := by decide +kernel
theorem dJ8_hugeLength_7cf53_33 : decode cJ8_hugeLength_7cf53 33 = .ok (.iload_n 1, 1) := by decide +kernel
theorem dJ8_hugeLength_7cf53_34 : decode cJ8_hugeLength_7cf53 34 = .ok (.invokevirtual 98, 3) := by decide +kernel
theorem dJ8_hugeLength_7cf53_37 : decode cJ8_hugeLength_7cf53 37 = .ok (.ldc 210, 2) := by decide +kernel
theorem dJ8_hugeLength_7cf53_39 : decode cJ8_hugeLength_7cf53 39 = .ok (.invokevirtual 94, 3) := by decide +kernel
theorem dJ8_hugeLength_7cf53_42 : decode cJ8_hugeLength_7cf53 42 = .ok (.invokevirtual 101, 3) := by decide +kernel
theorem dJ8_hugeLength_7cf53_45 : decode cJ8_hugeLength_7cf53 45 = .ok (.invokespecial 212, 3) := by decide +kernel
theorem dJ8_hugeLength_7cf53_48 : decode cJ8_hugeLength_7cf53 48 = .ok (.athrow, 1) := by decide +kernel
theorem dJ8_hugeLength_7cf53_49 : decode cJ8_hugeLength_7cf53 49 = .ok (.iload_n 2, 1) := by decide +kernel
theorem dJ8_hugeLength_7cf53_50 : decode cJ8_hugeLength_7cf53 50 = .ok (.ldc 200, 2) := by decide +kernel
theorem dJ8_hugeLength_7cf53_52 : decode cJ8_hugeLength_7cf53 52 = .ok (.if_icmp .gt 6, 3) := by decide +kernel
theorem dJ8_hugeLength_7cf53_55 : decode cJ8_hugeLength_7cf53 55 = .ok (.ldc 200, 2) := by decide +kernel
theorem dJ8_hugeLength_7cf53_57 : decode cJ8_hugeLength_7cf53 57 = .ok (.ireturn, 1) := by decide +kernel
theorem dJ8_hugeLength_7cf53_58 : decode cJ8_hugeLength_7cf53 58 = .ok (.iload_n 2, 1) := by decide +kernel
theorem dJ8_hugeLength_7cf53_59 : decode cJ8_hugeLength_7cf53 59 = .ok (.ireturn, 1) := by decide +kernel
theorem dJ8_newLength_cabcc_0 : decode cJ8_newLength_cabcc 0 = .ok (.iload_n 0, 1) := by decide +kernel
theorem dJ8_newLength_cabcc_1 : decode cJ8_newLength_cabcc 1 = .ok (.iload_n 1, 1) := by decide +kernel
theorem dJ8_newLength_cabcc_2 : decode cJ8_newLength_cabcc 2 = .ok (.iload_n 2, 1) := by decide +kernel
theorem dJ8_newLength_cabcc_3 : decode cJ8_newLength_cabcc 3 = .ok (.invokestatic 194, 3) := by decide +kernel
theorem dJ8_newLength_cabcc_6 : decode cJ8_newLength_cabcc 6 = .ok (.iadd, 1) := by decide +kernel
theorem dJ8_newLength_cabcc_7 : decode cJ8_newLength_cabcc 7 = .ok (.istore_n 3, 1) := by decide +kernel
theorem dJ8_newLength_cabcc_8 : decode cJ8_newLength_cabcc 8 = .ok (.iconst 0, 1) := by decide +kernel
theorem dJ8_newLength_cabcc_9 : decode cJ8_newLength_cabcc 9 = .ok (.iload_n 3, 1) := by decide +kernel
theorem dJ8_newLength_cabcc_10 : decode cJ8_newLength_cabcc 10 = .ok (.if_icmp .ge 11, 3) := by decide +kernel
theorem dJ8_newLength_cabcc_13 : decode cJ8_newLength_cabcc 13 = .ok (.iload_n 3, 1) := by decide +kernel
theorem dJ8_newLength_cabcc_14 : decode cJ8_newLength_cabcc 14 = .ok (.ldc 200, 2) := by decide +kernel
theorem dJ8_newLength_cabcc_16 : decode cJ8_newLength_cabcc 16 = .ok (.if_icmp .gt 5, 3) := by decide +kernel
theorem dJ8_newLength_cabcc_19 : decode cJ8_newLength_cabcc 19 = .ok (.iload_n 3, 1) := by decide +kernel
theorem dJ8_newLength_cabcc_20 : decode cJ8_newLength_cabcc 20 = .ok (.ireturn, 1) := by decide +kernel
theorem dJ8_newLength_cabcc_21 : decode cJ8_newLength_cabcc 21 = .ok (.iload_n 0, 1) := by decide +kernel
theorem dJ8_newLength_cabcc_22 : decode cJ8_newLength_cabcc 22 = .ok (.iload_n 1, 1) := by decide +kernel
theorem dJ8_newLength_cabcc_23 : decode cJ8_newLength_cabcc 23 = .ok (.invokestatic 201, 3) := by decide +kernel
theorem dJ8_newLength_cabcc_26 : decode cJ8_newLength_cabcc 26 = .ok (.ireturn, 1) := by decide +kernel
theorem dJx4a65c_grow_92f84_0 : decode cJx4a65c_grow_92f84 0 = .ok (.aload_n 0, 1) := by decide +kernel
theorem dJx4a65c_grow_92f84_1 : decode cJx4a65c_grow_92f84 1 = .ok (.getfield 9, 3) := by decide +kernel
theorem dJx4a65c_grow_92f84_4 : decode cJx4a65c_grow_92f84 4 = .ok (.arraylength, 1) := by decide +kernel
theorem dJx4a65c_grow_92f84_5 : decode cJx4a65c_grow_92f84 5 = .ok (.istore_n 2, 1) := by decide +kernel
theorem dJx4a65c_grow_92f84_6 : decode cJx4a65c_grow_92f84 6 = .ok (.iload_n 2, 1) := by decide +kernel
theorem dJx4a65c_grow_92f84_7 : decode cJx4a65c_grow_92f84 7 = .ok (.ifCond .gt 13, 3) := by decide +kernel
theorem dJx4a65c_grow_92f84_10 : decode cJx4a65c_grow_92f84 10 = .ok (.aload_n 0, 1) := by decide +kernel
theorem dJx4a65c_grow_92f84_11 : decode cJx4a65c_grow_92f84 11 = .ok (.getfield 9, 3) := by decide +kernel
theorem dJx4a65c_grow_92f84_14 : decode cJx4a65c_grow_92f84 14 = .ok (.getstatic 39, 3) := by decide +kernel
theorem dJx4a65c_grow_92f84_17 : decode cJx4a65c_grow_92f84 17 = .ok (.if_acmp .eq 28, 3) := by decide +kernel
theorem dJx4a65c_grow_92f84_20 : decode cJx4a65c_grow_92f84 20 = .ok (.iload_n 2, 1) := by decide +kernel
theorem dJx4a65c_grow_92f84_21 : decode cJx4a65c_grow_92f84 21 = .ok (.iload_n 1, 1) := by decide +kernel
theorem dJx4a65c_grow_92f84_22 : decode cJx4a65c_grow_92f84 22 = .ok (.iload_n 2, 1) := by decide +kernel
theorem dJx4a65c_grow_92f84_23 : decode cJx4a65c_grow_92f84 23 = .ok (.isub, 1) := by decide +kernel
theorem dJx4a65c_grow_92f84_24 : decode cJx4a65c_grow_92f84 24 = .ok (.iload_n 2, 1) := by decide +kernel
theorem dJx4a65c_grow_92f84_25 : decode cJx4a65c_grow_92f84 25 = .ok (.iconst 1, 1) := by decide +kernel
theorem dJx4a65c_grow_92f84_26 : decode cJx4a65c_grow_92f84 26 = .ok (.ishr, 1) := by decide +kernel
theorem dJx4a65c_grow_92f84_27 : decode cJx4a65c_grow_92f84 27 = .ok (.invokestatic 73, 3) := by decide +kernel
theorem dJx4a65c_grow_92f84_30 : decode cJx4a65c_grow_92f84 30 = .ok (.istore_n 3, 1) := by decide +kernel
theorem dJx4a65c_grow_92f84_31 : decode cJx4a65c_grow_92f84 31 = .ok (.aload_n 0, 1) := by decide +kernel
theorem dJx4a65c_grow_92f84_32 : decode cJx4a65c_grow_92f84 32 = .ok (.aload_n 0, 1) := by decide +kernel
theorem dJx4a65c_grow_92f84_33 : decode cJx4a65c_grow_92f84 33 = .ok (.getfield 9, 3) := by decide +kernel
theorem dJx4a65c_grow_92f84_36 : decode cJx4a65c_grow_92f84 36 = .ok (.iload_n 3, 1) := by decide +kernel
theorem dJx4a65c_grow_92f84_37 : decode cJx4a65c_grow_92f84 37 = .ok (.invokestatic 66, 3) := by decide +kernel
theorem dJx4a65c_grow_92f84_40 : decode cJx4a65c_grow_92f84 40 = .ok (.dup_x1, 1) := by decide +kernel
theorem dJx4a65c_grow_92f84_41 : decode cJx4a65c_grow_92f84 41 = .ok (.putfield 9, 3) := by decide +kernel
theorem dJx4a65c_grow_92f84_44 : decode cJx4a65c_grow_92f84 44 = .ok (.areturn, 1) := by decide +kernel
theorem dJx4a65c_grow_92f84_45 : decode cJx4a65c_grow_92f84 45 = .ok (.aload_n 0, 1) := by decide +kernel
theorem dJx4a65c_grow_92f84_46 : decode cJx4a65c_grow_92f84 46 = .ok (.bipush 10, 2) := by decide +kernel
theorem dJx4a65c_grow_92f84_48 : decode cJx4a65c_grow_92f84 48 = .ok (.iload_n 1, 1) := by decide +kernel
theorem dJx4a65c_grow_92f84_49 : decode cJx4a65c_grow_92f84 49 = .ok (.invokestatic 79, 3) := by decide +kernel
theorem dJx4a65c_grow_92f84_52 : decode cJx4a65c_grow_92f84 52 = .ok (.anewarray 7, 3) := by decide +kernel
theorem dJx4a65c_grow_92f84_55 : decode cJx4a65c_grow_92f84 55 = .ok (.dup_x1, 1) := by decide +kernel
theorem dJx4a65c_grow_92f84_56 : decode cJx4a65c_grow_92f84 56 = .ok (.putfield 9, 3) := by decide +kernel
theorem dJx4a65c_grow_92f84_59 : decode cJx4a65c_grow_92f84 59 = .ok (.areturn, 1) := by decide +kernel
theorem dJx4a65c_grow_d5877_0 : decode cJx4a65c_grow_d5877 0 = .ok (.aload_n 0, 1) := by decide +kernel
theorem dJx4a65c_grow_d5877_1 : decode cJx4a65c_grow_d5877 1 = .ok (.aload_n 0, 1) := by decide +kernel
theorem dJx4a65c_grow_d5877_2 : decode cJx4a65c_grow_d5877 2 = .ok (.getfield 48, 3) := by decide +kernel
theorem dJx4a65c_grow_d5877_5 : decode cJx4a65c_grow_d5877 5 = .ok (.iconst 1, 1) := by decide +kernel
theorem dJx4a65c_grow_d5877_6 : decode cJx4a65c_grow_d5877 6 = .ok (.iadd, 1) := by decide +kernel
theorem dJx4a65c_grow_d5877_7 : decode cJx4a65c_grow_d5877 7 = .ok (.invokevirtual 69, 3) := by decide +kernel
theorem dJx4a65c_grow_d5877_10 : decode cJx4a65c_grow_d5877 10 = .ok (.areturn, 1) := by decide +kernel
theorem dJx4a65c_add_72be8_0 : decode cJx4a65c_add_72be8 0 = .ok (.iload_n 3, 1) := by decide +kernel
theorem dJx4a65c_add_72be8_1 : decode cJx4a65c_add_72be8 1 = .ok (.aload_n 2, 1) := by decide +kernel
theorem dJx4a65c_add_72be8_2 : decode cJx4a65c_add_72be8 2 = .ok (.arraylength, 1) := by decide +kernel
theorem dJx4a65c_add_72be8_3 : decode cJx4a65c_add_72be8 3 = .ok (.if_icmp .ne 8, 3) := by decide +kernel
theorem dJx4a65c_add_72be8_6 : decode cJx4a65c_add_72be8 6 = .ok (.aload_n 0, 1) := by decide +kernel
theorem dJx4a65c_add_72be8_7 : decode cJx4a65c_add_72be8 7 = .ok (.invokevirtual 129, 3) := by decide +kernel
theorem dJx4a65c_add_72be8_10 : decode cJx4a65c_add_72be8 10 = .ok (.astore_n 2, 1) := by decide +kernel
theorem dJx4a65c_add_72be8_11 : decode cJx4a65c_add_72be8 11 = .ok (.aload_n 2, 1) := by decide +kernel
theorem dJx4a65c_add_72be8_12 : decode cJx4a65c_add_72be8 12 = .ok (.iload_n 3, 1) := by decide +kernel
theorem dJx4a65c_add_72be8_13 : decode cJx4a65c_add_72be8 13 = .ok (.aload_n 1, 1) := by decide +kernel
theorem dJx4a65c_add_72be8_14 : decode cJx4a65c_add_72be8 14 = .ok (.aastore, 1) := by decide +kernel
theorem dJx4a65c_add_72be8_15 : decode cJx4a65c_add_72be8 15 = .ok (.aload_n 0, 1) := by decide +kernel
theorem dJx4a65c_add_72be8_16 : decode cJx4a65c_add_72be8 16 = .ok (.iload_n 3, 1) := by decide +kernel
theorem dJx4a65c_add_72be8_17 : decode cJx4a65c_add_72be8 17 = .ok (.iconst 1, 1) := by decide +kernel
theorem dJx4a65c_add_72be8_18 : decode cJx4a65c_add_72be8 18 = .ok (.iadd, 1) := by decide +kernel
theorem dJx4a65c_add_72be8_19 : decode cJx4a65c_add_72be8 19 = .ok (.putfield 48, 3) := by decide +kernel
theorem dJx4a65c_add_72be8_22 : decode cJx4a65c_add_72be8 22 = .ok (.return_, 1) := by decide +kernel
theorem dJx4a65c_add_9ea2d_0 : decode cJx4a65c_add_9ea2d 0 = .ok (.aload_n 0, 1) := by decide +kernel
theorem dJx4a65c_add_9ea2d_1 : decode cJx4a65c_add_9ea2d 1 = .ok (.dup, 1) := by decide +kernel
theorem dJx4a65c_add_9ea2d_2 : decode cJx4a65c_add_9ea2d 2 = .ok (.getfield 63, 3) := by decide +kernel
theorem dJx4a65c_add_9ea2d_5 : decode cJx4a65c_add_9ea2d 5 = .ok (.iconst 1, 1) := by decide +kernel
theorem dJx4a65c_add_9ea2d_6 : decode cJx4a65c_add_9ea2d 6 = .ok (.iadd, 1) := by decide +kernel
theorem dJx4a65c_add_9ea2d_7 : decode cJx4a65c_add_9ea2d 7 = .ok (.putfield 63, 3) := by decide +kernel
theorem dJx4a65c_add_9ea2d_10 : decode cJx4a65c_add_9ea2d 10 = .ok (.aload_n 0, 1) := by decide +kernel
theorem dJx4a65c_add_9ea2d_11 : decode cJx4a65c_add_9ea2d 11 = .ok (.aload_n 1, 1) := by decide +kernel
theorem dJx4a65c_add_9ea2d_12 : decode cJx4a65c_add_9ea2d 12 = .ok (.aload_n 0, 1) := by decide +kernel
theorem dJx4a65c_add_9ea2d_13 : decode cJx4a65c_add_9ea2d 13 = .ok (.getfield 9, 3) := by decide +kernel
theorem dJx4a65c_add_9ea2d_16 : decode cJx4a65c_add_9ea2d 16 = .ok (.aload_n 0, 1) := by decide +kernel
theorem dJx4a65c_add_9ea2d_17 : decode cJx4a65c_add_9ea2d 17 = .ok (.getfield 48, 3) := by decide +kernel
theorem dJx4a65c_add_9ea2d_20 : decode cJx4a65c_add_9ea2d 20 = .ok (.invokevirtual 131, 3) := by decide +kernel
theorem dJx4a65c_add_9ea2d_23 : decode cJx4a65c_add_9ea2d 23 = .ok (.iconst 1, 1) := by decide +kernel
theorem dJx4a65c_add_9ea2d_24 : decode cJx4a65c_add_9ea2d 24 = .ok (.ireturn, 1) := by decide +kernel
theorem dJ3_checkIndex_8e157_0 : decode cJ3_checkIndex_8e157 0 = .ok (.iload_n 0, 1) := by decide +kernel
theorem dJ3_checkIndex_8e157_1 : decode cJ3_checkIndex_8e157 1 = .ok (.ifCond .lt 8, 3) := by decide +kernel
theorem dJ3_checkIndex_8e157_4 : decode cJ3_checkIndex_8e157 4 = .ok (.iload_n 0, 1) := by decide +kernel
theorem dJ3_checkIndex_8e157_5 : decode cJ3_checkIndex_8e157 5 = .ok (.iload_n 1, 1) := by decide +kernel
theorem dJ3_checkIndex_8e157_6 : decode cJ3_checkIndex_8e157 6 = .ok (.if_icmp .lt 10, 3) := by decide +kernel
theorem dJ3_checkIndex_8e157_9 : decode cJ3_checkIndex_8e157 9 = .ok (.aload_n 2, 1) := by decide +kernel
theorem dJ3_checkIndex_8e157_10 : decode cJ3_checkIndex_8e157 10 = .ok (.iload_n 0, 1) := by decide +kernel
theorem dJ3_checkIndex_8e157_11 : decode cJ3_checkIndex_8e157 11 = .ok (.iload_n 1, 1) := by decide +kernel
theorem dJ3_checkIndex_8e157_12 : decode cJ3_checkIndex_8e157 12 = .ok (.invokestatic 95, 3) := by decide +kernel
theorem dJ3_checkIndex_8e157_15 : decode cJ3_checkIndex_8e157 15 = .ok (.athrow, 1) := by decide +kernel
theorem dJ3_checkIndex_8e157_16 : decode cJ3_checkIndex_8e157 16 = .ok (.iload_n 0, 1) := by decide +kernel
theorem dJ3_checkIndex_8e157_17 : decode cJ3_checkIndex_8e157 17 = .ok (.ireturn, 1) := by decide +kernel
theorem dJ15_checkIndex_7cf53_0 : decode cJ15_checkIndex_7cf53 0 = .ok (.iload_n 0, 1) := by decide +kernel
theorem dJ15_checkIndex_7cf53_1 : decode cJ15_checkIndex_7cf53 1 = .ok (.iload_n 1, 1) := by decide +kernel
theorem dJ15_checkIndex_7cf53_2 : decode cJ15_checkIndex_7cf53 2 = .ok (.aconst_null, 1) := by decide +kernel
theorem dJ15_checkIndex_7cf53_3 : decode cJ15_checkIndex_7cf53 3 = .ok (.invokestatic 105, 3) := by decide +kernel
theorem dJ15_checkIndex_7cf53_6 : decode cJ15_checkIndex_7cf53 6 = .ok (.ireturn, 1) := by decide +kernel
theorem dJx4a65c_elementData_915e3_0 : decode cJx4a65c_elementData_915e3 0 = .ok (.aload_n 0, 1) := by decide +kernel
theorem dJx4a65c_elementData_915e3_1 : decode cJx4a65c_elementData_915e3 1 = .ok (.getfield 9, 3) := by decide +kernel
theorem dJx4a65c_elementData_915e3_4 : decode cJx4a65c_elementData_915e3 4 = .ok (.iload_n 1, 1) := by decide +kernel
theorem dJx4a65c_elementData_915e3_5 : decode cJx4a65c_elementData_915e3 5 = .ok (.aaload, 1) := by decide +kernel
theorem dJx4a65c_elementData_915e3_6 : decode cJx4a65c_elementData_915e3 6 = .ok (.areturn, 1) := by decide +kernel
theorem dJx4a65c_get_915e3_0 : decode cJx4a65c_get_915e3 0 = .ok (.iload_n 1, 1) := by decide +kernel
theorem dJx4a65c_get_915e3_1 : decode cJx4a65c_get_915e3 1 = .ok (.aload_n 0, 1) := by decide +kernel
theorem dJx4a65c_get_915e3_2 : decode cJx4a65c_get_915e3 2 = .ok (.getfield 48, 3) := by decide +kernel
theorem dJx4a65c_get_915e3_5 : decode cJx4a65c_get_915e3 5 = .ok (.invokestatic 118, 3) := by decide +kernel
theorem dJx4a65c_get_915e3_8 : decode cJx4a65c_get_915e3 8 = .ok (.pop, 1) := by decide +kernel
theorem dJx4a65c_get_915e3_9 : decode cJx4a65c_get_915e3 9 = .ok (.aload_n 0, 1) := by decide +kernel
theorem dJx4a65c_get_915e3_10 : decode cJx4a65c_get_915e3 10 = .ok (.iload_n 1, 1) := by decide +kernel
theorem dJx4a65c_get_915e3_11 : decode cJx4a65c_get_915e3 11 = .ok (.invokevirtual 123, 3) := by decide +kernel
theorem dJx4a65c_get_915e3_14 : decode cJx4a65c_get_915e3 14 = .ok (.areturn, 1) := by decide +kernel
theorem dJx4a65c_isEmpty_aae02_0 : decode cJx4a65c_isEmpty_aae02 0 = .ok (.aload_n 0, 1) := by decide +kernel
theorem dJx4a65c_isEmpty_aae02_1 : decode cJx4a65c_isEmpty_aae02 1 = .ok (.getfield 48, 3) := by decide +kernel
theorem dJx4a65c_isEmpty_aae02_4 : decode cJx4a65c_isEmpty_aae02 4 = .ok (.ifCond .ne 7, 3) := by decide +kernel
theorem dJx4a65c_isEmpty_aae02_7 : decode cJx4a65c_isEmpty_aae02 7 = .ok (.iconst 1, 1) := by decide +kernel
theorem dJx4a65c_isEmpty_aae02_8 : decode cJx4a65c_isEmpty_aae02 8 = .ok (.goto 4, 3) := by decide +kernel
theorem dJx4a65c_isEmpty_aae02_11 : decode cJx4a65c_isEmpty_aae02 11 = .ok (.iconst 0, 1) := by decide +kernel
theorem dJx4a65c_isEmpty_aae02_12 : decode cJx4a65c_isEmpty_aae02 12 = .ok (.ireturn, 1) := by decide +kernel
theorem dJx4a65c_fastRemove_b59b0_0 : decode cJx4a65c_fastRemove_b59b0 0 = .ok (.aload_n 0, 1) := by decide +kernel
theorem dJx4a65c_fastRemove_b59b0_1 : decode cJx4a65c_fastRemove_b59b0 1 = .ok (.dup, 1) := by decide +kernel
theorem dJx4a65c_fastRemove_b59b0_2 : decode cJx4a65c_fastRemove_b59b0 2 = .ok (.getfield 63, 3) := by decide +kernel
theorem dJx4a65c_fastRemove_b59b0_5 : decode cJx4a65c_fastRemove_b59b0 5 = .ok (.iconst 1, 1) := by decide +kernel
theorem dJx4a65c_fastRemove_b59b0_6 : decode cJx4a65c_fastRemove_b59b0 6 = .ok (.iadd, 1) := by decide +kernel
theorem dJx4a65c_fastRemove_b59b0_7 : decode cJx4a65c_fastRemove_b59b0 7 = .ok (.putfield 63, 3) := by decide +kernel
theorem dJx4a65c_fastRemove_b59b0_10 : decode cJx4a65c_fastRemove_b59b0 10 = .ok (.aload_n 0, 1) := by decide +kernel
theorem dJx4a65c_fastRemove_b59b0_11 : decode cJx4a65c_fastRemove_b59b0 11 = .ok (.getfield 48, 3) := by decide +kernel
theorem dJx4a65c_fastRemove_b59b0_14 : decode cJx4a65c_fastRemove_b59b0 14 = .ok (.iconst 1, 1) := by decide +kernel
theorem dJx4a65c_fastRemove_b59b0_15 : decode cJx4a65c_fastRemove_b59b0 15 = .ok (.isub, 1) := by decide +kernel
theorem dJx4a65c_fastRemove_b59b0_16 : decode cJx4a65c_fastRemove_b59b0 16 = .ok (.dup, 1) := by decide +kernel
theorem dJx4a65c_fastRemove_b59b0_17 : decode cJx4a65c_fastRemove_b59b0 17 = .ok (.istore_n 3, 1) := by decide +kernel
theorem dJx4a65c_fastRemove_b59b0_18 : decode cJx4a65c_fastRemove_b59b0 18 = .ok (.iload_n 2, 1) := by decide +kernel
theorem dJx4a65c_fastRemove_b59b0_19 : decode cJx4a65c_fastRemove_b59b0 19 = .ok (.if_icmp .le 15, 3) := by decide +kernel
theorem dJx4a65c_fastRemove_b59b0_22 : decode cJx4a65c_fastRemove_b59b0 22 = .ok (.aload_n 1, 1) := by decide +kernel
theorem dJx4a65c_fastRemove_b59b0_23 : decode cJx4a65c_fastRemove_b59b0 23 = .ok (.iload_n 2, 1) := by decide +kernel
theorem dJx4a65c_fastRemove_b59b0_24 : decode cJx4a65c_fastRemove_b59b0 24 = .ok (.iconst 1, 1) := by decide +kernel
theorem dJx4a65c_fastRemove_b59b0_25 : decode cJx4a65c_fastRemove_b59b0 25 = .ok (.iadd, 1) := by decide +kernel
theorem dJx4a65c_fastRemove_b59b0_26 : decode cJx4a65c_fastRemove_b59b0 26 = .ok (.aload_n 1, 1) := by decide +kernel
theorem dJx4a65c_fastRemove_b59b0_27 : decode cJx4a65c_fastRemove_b59b0 27 = .ok (.iload_n 2, 1) := by decide +kernel
theorem dJx4a65c_fastRemove_b59b0_28 : decode cJx4a65c_fastRemove_b59b0 28 = .ok (.iload_n 3, 1) := by decide +kernel
theorem dJx4a65c_fastRemove_b59b0_29 : decode cJx4a65c_fastRemove_b59b0 29 = .ok (.iload_n 2, 1) := by decide +kernel
theorem dJx4a65c_fastRemove_b59b0_30 : decode cJx4a65c_fastRemove_b59b0 30 = .ok (.isub, 1) := by decide +kernel
theorem dJx4a65c_fastRemove_b59b0_31 : decode cJx4a65c_fastRemove_b59b0 31 = .ok (.invokestatic 112, 3) := by decide +kernel
theorem dJx4a65c_fastRemove_b59b0_34 : decode cJx4a65c_fastRemove_b59b0 34 = .ok (.aload_n 1, 1) := by decide +kernel
theorem dJx4a65c_fastRemove_b59b0_35 : decode cJx4a65c_fastRemove_b59b0 35 = .ok (.aload_n 0, 1) := by decide +kernel
theorem dJx4a65c_fastRemove_b59b0_36 : decode cJx4a65c_fastRemove_b59b0 36 = .ok (.iload_n 3, 1) := by decide +kernel
theorem dJx4a65c_fastRemove_b59b0_37 : decode cJx4a65c_fastRemove_b59b0 37 = .ok (.dup_x1, 1) := by decide +kernel
theorem dJx4a65c_fastRemove_b59b0_38 : decode cJx4a65c_fastRemove_b59b0 38 = .ok (.putfield 48, 3) := by decide +kernel
theorem dJx4a65c_fastRemove_b59b0_41 : decode cJx4a65c_fastRemove_b59b0 41 = .ok (.aconst_null, 1) := by decide +kernel
theorem dJx4a65c_fastRemove_b59b0_42 : decode cJx4a65c_fastRemove_b59b0 42 = .ok (.aastore, 1) := by decide +kernel
theorem dJx4a65c_fastRemove_b59b0_43 : decode cJx4a65c_fastRemove_b59b0 43 = .ok (.return_, 1) := by decide +kernel
theorem dJx4a65c_remove_915e3_0 : decode cJx4a65c_remove_915e3 0 = .ok (.iload_n 1, 1) := by decide +kernel
theorem dJx4a65c_remove_915e3_1 : decode cJx4a65c_remove_915e3 1 = .ok (.aload_n 0, 1) := by decide +kernel
theorem dJx4a65c_remove_915e3_2 : decode cJx4a65c_remove_915e3 2 = .ok (.getfield 48, 3) := by decide +kernel
theorem dJx4a65c_remove_915e3_5 : decode cJx4a65c_remove_915e3 5 = .ok (.invokestatic 118, 3) := by decide +kernel
theorem dJx4a65c_remove_915e3_8 : decode cJx4a65c_remove_915e3 8 = .ok (.pop, 1) := by decide +kernel
theorem dJx4a65c_remove_915e3_9 : decode cJx4a65c_remove_915e3 9 = .ok (.aload_n 0, 1) := by decide +kernel
theorem dJx4a65c_remove_915e3_10 : decode cJx4a65c_remove_915e3 10 = .ok (.getfield 9, 3) := by decide +kernel
theorem dJx4a65c_remove_915e3_13 : decode cJx4a65c_remove_915e3 13 = .ok (.astore_n 2, 1) := by decide +kernel
theorem dJx4a65c_remove_915e3_14 : decode cJx4a65c_remove_915e3 14 = .ok (.aload_n 2, 1) := by decide +kernel
theorem dJx4a65c_remove_915e3_15 : decode cJx4a65c_remove_915e3 15 = .ok (.iload_n 1, 1) := by decide +kernel
theorem dJx4a65c_remove_915e3_16 : decode cJx4a65c_remove_915e3 16 = .ok (.aaload, 1) := by decide +kernel
theorem dJx4a65c_remove_915e3_17 : decode cJx4a65c_remove_915e3 17 = .ok (.astore_n 3, 1) := by decide +kernel
theorem dJx4a65c_remove_915e3_18 : decode cJx4a65c_remove_915e3 18 = .ok (.aload_n 0, 1) := by decide +kernel
theorem dJx4a65c_remove_915e3_19 : decode cJx4a65c_remove_915e3 19 = .ok (.aload_n 2, 1) := by decide +kernel
theorem dJx4a65c_remove_915e3_20 : decode cJx4a65c_remove_915e3 20 = .ok (.iload_n 1, 1) := by decide +kernel
theorem dJx4a65c_remove_915e3_21 : decode cJx4a65c_remove_915e3 21 = .ok (.invokevirtual 144, 3) := by decide +kernel
theorem dJx4a65c_remove_915e3_24 : decode cJx4a65c_remove_915e3 24 = .ok (.aload_n 3, 1) := by decide +kernel
theorem dJx4a65c_remove_915e3_25 : decode cJx4a65c_remove_915e3 25 = .ok (.areturn, 1) := by decide +kernel
theorem dX0_init_0 : decode cX0_init 0 = .ok (.aload_n 0, 1) := by decide +kernel
theorem dX0_init_1 : decode cX0_init 1 = .ok (.invokespecial 3, 3) := by decide +kernel
theorem dX0_init_4 : decode cX0_init 4 = .ok (.aload_n 0, 1) := by decide +kernel
theorem dX0_init_5 : decode cX0_init 5 = .ok (.iconst 4, 1) := by decide +kernel
theorem dX0_init_6 : decode cX0_init 6 = .ok (.newarray .int, 2) := by decide +kernel
theorem dX0_init_8 : decode cX0_init 8 = .ok (.putfield 9, 3) := by decide +kernel
theorem dX0_init_11 : decode cX0_init 11 = .ok (.return_, 1) := by decide +kernel
theorem dX0_leansOn_0 : decode cX0_leansOn 0 = .ok (.iconst 0, 1) := by decide +kernel
theorem dX0_leansOn_1 : decode cX0_leansOn 1 = .ok (.istore_n 2, 1) := by decide +kernel
theorem dX0_leansOn_2 : decode cX0_leansOn 2 = .ok (.iload_n 2, 1) := by decide +kernel
theorem dX0_leansOn_3 : decode cX0_leansOn 3 = .ok (.aload_n 0, 1) := by decide +kernel
theorem dX0_leansOn_4 : decode cX0_leansOn 4 = .ok (.getfield 15, 3) := by decide +kernel
theorem dX0_leansOn_7 : decode cX0_leansOn 7 = .ok (.if_icmp .ge 30, 3) := by decide +kernel
theorem dX0_leansOn_10 : decode cX0_leansOn 10 = .ok (.iload_n 2, 1) := by decide +kernel
theorem dX0_leansOn_11 : decode cX0_leansOn 11 = .ok (.aload_n 0, 1) := by decide +kernel
theorem dX0_leansOn_12 : decode cX0_leansOn 12 = .ok (.getfield 9, 3) := by decide +kernel
theorem dX0_leansOn_15 : decode cX0_leansOn 15 = .ok (.arraylength, 1) := by decide +kernel
theorem dX0_leansOn_16 : decode cX0_leansOn 16 = .ok (.if_icmp .ge 21, 3) := by decide +kernel
theorem dX0_leansOn_19 : decode cX0_leansOn 19 = .ok (.aload_n 0, 1) := by decide +kernel
theorem dX0_leansOn_20 : decode cX0_leansOn 20 = .ok (.getfield 9, 3) := by decide +kernel
theorem dX0_leansOn_23 : decode cX0_leansOn 23 = .ok (.iload_n 2, 1) := by decide +kernel
theorem dX0_leansOn_24 : decode cX0_leansOn 24 = .ok (.iaload, 1) := by decide +kernel
theorem dX0_leansOn_25 : decode cX0_leansOn 25 = .ok (.iload_n 1, 1) := by decide +kernel
theorem dX0_leansOn_26 : decode cX0_leansOn 26 = .ok (.if_icmp .ne 5, 3) := by decide +kernel
theorem dX0_leansOn_29 : decode cX0_leansOn 29 = .ok (.iconst 1, 1) := by decide +kernel
theorem dX0_leansOn_30 : decode cX0_leansOn 30 = .ok (.ireturn, 1) := by decide +kernel
theorem dX0_leansOn_31 : decode cX0_leansOn 31 = .ok (.iinc 2 1, 3) := by decide +kernel
theorem dX0_leansOn_34 : decode cX0_leansOn 34 = .ok (.goto (-32), 3) := by decide +kernel
theorem dX0_leansOn_37 : decode cX0_leansOn 37 = .ok (.iconst 0, 1) := by decide +kernel
theorem dX0_leansOn_38 : decode cX0_leansOn 38 = .ok (.ireturn, 1) := by decide +kernel
theorem dX0_addLean_0 : decode cX0_addLean 0 = .ok (.aload_n 0, 1) := by decide +kernel
theorem dX0_addLean_1 : decode cX0_addLean 1 = .ok (.getfield 15, 3) := by decide +kernel
theorem dX0_addLean_4 : decode cX0_addLean 4 = .ok (.aload_n 0, 1) := by decide +kernel
theorem dX0_addLean_5 : decode cX0_addLean 5 = .ok (.getfield 9, 3) := by decide +kernel
theorem dX0_addLean_8 : decode cX0_addLean 8 = .ok (.arraylength, 1) := by decide +kernel
theorem dX0_addLean_9 : decode cX0_addLean 9 = .ok (.if_icmp .lt 6, 3) := by decide +kernel
theorem dX0_addLean_12 : decode cX0_addLean 12 = .ok (.bipush (-2), 2) := by decide +kernel
theorem dX0_addLean_14 : decode cX0_addLean 14 = .ok (.ireturn, 1) := by decide +kernel
theorem dX0_addLean_15 : decode cX0_addLean 15 = .ok (.aload_n 0, 1) := by decide +kernel
theorem dX0_addLean_16 : decode cX0_addLean 16 = .ok (.getfield 9, 3) := by decide +kernel
theorem dX0_addLean_19 : decode cX0_addLean 19 = .ok (.aload_n 0, 1) := by decide +kernel
theorem dX0_addLean_20 : decode cX0_addLean 20 = .ok (.getfield 15, 3) := by decide +kernel
theorem dX0_addLean_23 : decode cX0_addLean 23 = .ok (.iload_n 1, 1) := by decide +kernel
theorem dX0_addLean_24 : decode cX0_addLean 24 = .ok (.iastore, 1) := by decide +kernel
theorem dX0_addLean_25 : decode cX0_addLean 25 = .ok (.aload_n 0, 1) := by decide +kernel
theorem dX0_addLean_26 : decode cX0_addLean 26 = .ok (.dup, 1) := by decide +kernel
theorem dX0_addLean_27 : decode cX0_addLean 27 = .ok (.getfield 15, 3) := by decide +kernel
theorem dX0_addLean_30 : decode cX0_addLean 30 = .ok (.iconst 1, 1) := by decide +kernel
theorem dX0_addLean_31 : decode cX0_addLean 31 = .ok (.iadd, 1) := by decide +kernel
theorem dX0_addLean_32 : decode cX0_addLean 32 = .ok (.putfield 15, 3) := by decide +kernel
theorem dX0_addLean_35 : decode cX0_addLean 35 = .ok (.aload_n 0, 1) := by decide +kernel
theorem dX0_addLean_36 : decode cX0_addLean 36 = .ok (.getfield 15, 3) := by decide +kernel
theorem dX0_addLean_39 : decode cX0_addLean 39 = .ok (.ireturn, 1) := by decide +kernel
theorem dX1_init_0 : decode cX1_init 0 = .ok (.aload_n 0, 1) := by decide +kernel
theorem dX1_init_1 : decode cX1_init 1 = .ok (.invokespecial 3, 3) := by decide +kernel
theorem dX1_init_4 : decode cX1_init 4 = .ok (.aload_n 0, 1) := by decide +kernel
theorem dX1_init_5 : decode cX1_init 5 = .ok (.sipush 400, 3) := by decide +kernel
theorem dX1_init_8 : decode cX1_init 8 = .ok (.newarray .int, 2) := by decide +kernel
theorem dX1_init_10 : decode cX1_init 10 = .ok (.putfield 11, 3) := by decide +kernel
theorem dX1_init_13 : decode cX1_init 13 = .ok (.sipush 1000, 3) := by decide +kernel
theorem dX1_init_16 : decode cX1_init 16 = .ok (.istore_n 1, 1) := by decide +kernel
theorem dX1_init_17 : decode cX1_init 17 = .ok (.iconst 0, 1) := by decide +kernel
theorem dX1_init_18 : decode cX1_init 18 = .ok (.istore_n 2, 1) := by decide +kernel
theorem dX1_init_19 : decode cX1_init 19 = .ok (.iconst 0, 1) := by decide +kernel
theorem dX1_init_20 : decode cX1_init 20 = .ok (.istore_n 3, 1) := by decide +kernel
theorem dX1_init_21 : decode cX1_init 21 = .ok (.iload_n 3, 1) := by decide +kernel
theorem dX1_init_22 : decode cX1_init 22 = .ok (.aload_n 0, 1) := by decide +kernel
theorem dX1_init_23 : decode cX1_init 23 = .ok (.getfield 11, 3) := by decide +kernel
theorem dX1_init_26 : decode cX1_init 26 = .ok (.arraylength, 1) := by decide +kernel
theorem dX1_init_27 : decode cX1_init 27 = .ok (.if_icmp .ge 36, 3) := by decide +kernel
theorem dX1_init_30 : decode cX1_init 30 = .ok (.aload_n 0, 1) := by decide +kernel
theorem dX1_init_31 : decode cX1_init 31 = .ok (.getfield 11, 3) := by decide +kernel
theorem dX1_init_34 : decode cX1_init 34 = .ok (.iload_n 3, 1) := by decide +kernel
theorem dX1_init_35 : decode cX1_init 35 = .ok (.iload_n 1, 1) := by decide +kernel
theorem dX1_init_36 : decode cX1_init 36 = .ok (.iastore, 1) := by decide +kernel
theorem dX1_init_37 : decode cX1_init 37 = .ok (.iload_n 1, 1) := by decide +kernel
theorem dX1_init_38 : decode cX1_init 38 = .ok (.sipush 900, 3) := by decide +kernel
theorem dX1_init_41 : decode cX1_init 41 = .ok (.if_icmp .lt 6, 3) := by decide +kernel
theorem dX1_init_44 : decode cX1_init 44 = .ok (.iinc 2 1, 3) := by decide +kernel
theorem dX1_init_47 : decode cX1_init 47 = .ok (.iload_n 1, 1) := by decide +kernel
theorem dX1_init_48 : decode cX1_init 48 = .ok (.sipush 9934, 3) := by decide +kernel
theorem dX1_init_51 : decode cX1_init 51 = .ok (.imul, 1) := by decide +kernel
theorem dX1_init_52 : decode cX1_init 52 = .ok (.sipush 10000, 3) := by decide +kernel
theorem dX1_init_55 : decode cX1_init 55 = .ok (.idiv, 1) := by decide +kernel
theorem dX1_init_56 : decode cX1_init 56 = .ok (.istore_n 1, 1) := by decide +kernel
theorem dX1_init_57 : decode cX1_init 57 = .ok (.iinc 3 1, 3) := by decide +kernel
theorem dX1_init_60 : decode cX1_init 60 = .ok (.goto (-39), 3) := by decide +kernel
theorem dX1_init_63 : decode cX1_init 63 = .ok (.aload_n 0, 1) := by decide +kernel
theorem dX1_init_64 : decode cX1_init 64 = .ok (.iload_n 2, 1) := by decide +kernel
theorem dX1_init_65 : decode cX1_init 65 = .ok (.putfield 15, 3) := by decide +kernel
theorem dX1_init_68 : decode cX1_init 68 = .ok (.return_, 1) := by decide +kernel
theorem dX1_chanceAt_0 : decode cX1_chanceAt 0 = .ok (.iload_n 1, 1) := by decide +kernel
theorem dX1_chanceAt_1 : decode cX1_chanceAt 1 = .ok (.ifCond .ge 7, 3) := by decide +kernel
theorem dX1_chanceAt_4 : decode cX1_chanceAt 4 = .ok (.sipush 1000, 3) := by decide +kernel
theorem dX1_chanceAt_7 : decode cX1_chanceAt 7 = .ok (.ireturn, 1) := by decide +kernel
theorem dX1_chanceAt_8 : decode cX1_chanceAt 8 = .ok (.iload_n 1, 1) := by decide +kernel
theorem dX1_chanceAt_9 : decode cX1_chanceAt 9 = .ok (.aload_n 0, 1) := by decide +kernel
theorem dX1_chanceAt_10 : decode cX1_chanceAt 10 = .ok (.getfield 11, 3) := by decide +kernel
theorem dX1_chanceAt_13 : decode cX1_chanceAt 13 = .ok (.arraylength, 1) := by decide +kernel
theorem dX1_chanceAt_14 : decode cX1_chanceAt 14 = .ok (.if_icmp .ge 12, 3) := by decide +kernel
theorem dX1_chanceAt_17 : decode cX1_chanceAt 17 = .ok (.aload_n 0, 1) := by decide +kernel
theorem dX1_chanceAt_18 : decode cX1_chanceAt 18 = .ok (.getfield 11, 3) := by decide +kernel
theorem dX1_chanceAt_21 : decode cX1_chanceAt 21 = .ok (.iload_n 1, 1) := by decide +kernel
theorem dX1_chanceAt_22 : decode cX1_chanceAt 22 = .ok (.iaload, 1) := by decide +kernel
theorem dX1_chanceAt_23 : decode cX1_chanceAt 23 = .ok (.goto 4, 3) := by decide +kernel
theorem dX1_chanceAt_26 : decode cX1_chanceAt 26 = .ok (.iconst 0, 1) := by decide +kernel
theorem dX1_chanceAt_27 : decode cX1_chanceAt 27 = .ok (.ireturn, 1) := by decide +kernel
theorem dX2_init_0 : decode cX2_init 0 = .ok (.aload_n 0, 1) := by decide +kernel
theorem dX2_init_1 : decode cX2_init 1 = .ok (.invokespecial 3, 3) := by decide +kernel
theorem dX2_init_4 : decode cX2_init 4 = .ok (.aload_n 0, 1) := by decide +kernel
theorem dX2_init_5 : decode cX2_init 5 = .ok (.new 9, 3) := by decide +kernel
theorem dX2_init_8 : decode cX2_init 8 = .ok (.dup, 1) := by decide +kernel
theorem dX2_init_9 : decode cX2_init 9 = .ok (.invokespecial 11, 3) := by decide +kernel
theorem dX2_init_12 : decode cX2_init 12 = .ok (.putfield 12, 3) := by decide +kernel
theorem dX2_init_15 : decode cX2_init 15 = .ok (.aload_n 0, 1) := by decide +kernel
theorem dX2_init_16 : decode cX2_init 16 = .ok (.bipush 120, 2) := by decide +kernel
theorem dX2_init_18 : decode cX2_init 18 = .ok (.newarray .int, 2) := by decide +kernel
theorem dX2_init_20 : decode cX2_init 20 = .ok (.putfield 18, 3) := by decide +kernel
theorem dX2_init_23 : decode cX2_init 23 = .ok (.aload_n 0, 1) := by decide +kernel
theorem dX2_init_24 : decode cX2_init 24 = .ok (.bipush 120, 2) := by decide +kernel
theorem dX2_init_26 : decode cX2_init 26 = .ok (.newarray .boolean, 2) := by decide +kernel
theorem dX2_init_28 : decode cX2_init 28 = .ok (.putfield 22, 3) := by decide +kernel
theorem dX2_init_31 : decode cX2_init 31 = .ok (.return_, 1) := by decide +kernel
theorem dX2_size_0 : decode cX2_size 0 = .ok (.aload_n 0, 1) := by decide +kernel
theorem dX2_size_1 : decode cX2_size 1 = .ok (.getfield 12, 3) := by decide +kernel
theorem dX2_size_4 : decode cX2_size 4 = .ok (.invokevirtual 26, 3) := by decide +kernel
theorem dX2_size_7 : decode cX2_size 7 = .ok (.ireturn, 1) := by decide +kernel
theorem dX2_addCard_0 : decode cX2_addCard 0 = .ok (.aload_n 0, 1) := by decide +kernel
theorem dX2_addCard_1 : decode cX2_addCard 1 = .ok (.getfield 12, 3) := by decide +kernel
theorem dX2_addCard_4 : decode cX2_addCard 4 = .ok (.new 30, 3) := by decide +kernel
theorem dX2_addCard_7 : decode cX2_addCard 7 = .ok (.dup, 1) := by decide +kernel
theorem dX2_addCard_8 : decode cX2_addCard 8 = .ok (.invokespecial 32, 3) := by decide +kernel
theorem dX2_addCard_11 : decode cX2_addCard 11 = .ok (.invokevirtual 33, 3) := by decide +kernel
theorem dX2_addCard_14 : decode cX2_addCard 14 = .ok (.pop, 1) := by decide +kernel
theorem dX2_addCard_15 : decode cX2_addCard 15 = .ok (.aload_n 0, 1) := by decide +kernel
theorem dX2_addCard_16 : decode cX2_addCard 16 = .ok (.getfield 12, 3) := by decide +kernel
theorem dX2_addCard_19 : decode cX2_addCard 19 = .ok (.invokevirtual 26, 3) := by decide +kernel
theorem dX2_addCard_22 : decode cX2_addCard 22 = .ok (.iconst 1, 1) := by decide +kernel
theorem dX2_addCard_23 : decode cX2_addCard 23 = .ok (.isub, 1) := by decide +kernel
theorem dX2_addCard_24 : decode cX2_addCard 24 = .ok (.ireturn, 1) := by decide +kernel
theorem dX2_cardAt_0 : decode cX2_cardAt 0 = .ok (.iload_n 1, 1) := by decide +kernel
theorem dX2_cardAt_1 : decode cX2_cardAt 1 = .ok (.ifCond .lt 14, 3) := by decide +kernel
theorem dX2_cardAt_4 : decode cX2_cardAt 4 = .ok (.iload_n 1, 1) := by decide +kernel
theorem dX2_cardAt_5 : decode cX2_cardAt 5 = .ok (.aload_n 0, 1) := by decide +kernel
theorem dX2_cardAt_6 : decode cX2_cardAt 6 = .ok (.getfield 12, 3) := by decide +kernel
theorem dX2_cardAt_9 : decode cX2_cardAt 9 = .ok (.invokevirtual 26, 3) := by decide +kernel
theorem dX2_cardAt_12 : decode cX2_cardAt 12 = .ok (.if_icmp .lt 7, 3) := by decide +kernel
theorem dX2_cardAt_15 : decode cX2_cardAt 15 = .ok (.aconst_null, 1) := by decide +kernel
theorem dX2_cardAt_16 : decode cX2_cardAt 16 = .ok (.goto 14, 3) := by decide +kernel
theorem dX2_cardAt_19 : decode cX2_cardAt 19 = .ok (.aload_n 0, 1) := by decide +kernel
theorem dX2_cardAt_20 : decode cX2_cardAt 20 = .ok (.getfield 12, 3) := by decide +kernel
theorem dX2_cardAt_23 : decode cX2_cardAt 23 = .ok (.iload_n 1, 1) := by decide +kernel
theorem dX2_cardAt_24 : decode cX2_cardAt 24 = .ok (.invokevirtual 37, 3) := by decide +kernel
theorem dX2_cardAt_27 : decode cX2_cardAt 27 = .ok (.checkcast 30, 3) := by decide +kernel
theorem dX2_cardAt_30 : decode cX2_cardAt 30 = .ok (.areturn, 1) := by decide +kernel
theorem dX2_reach_0 : decode cX2_reach 0 = .ok (.iload_n 1, 1) := by decide +kernel
theorem dX2_reach_1 : decode cX2_reach 1 = .ok (.ifCond .lt 30, 3) := by decide +kernel
theorem dX2_reach_4 : decode cX2_reach 4 = .ok (.iload_n 1, 1) := by decide +kernel
theorem dX2_reach_5 : decode cX2_reach 5 = .ok (.aload_n 0, 1) := by decide +kernel
theorem dX2_reach_6 : decode cX2_reach 6 = .ok (.getfield 22, 3) := by decide +kernel
theorem dX2_reach_9 : decode cX2_reach 9 = .ok (.arraylength, 1) := by decide +kernel
theorem dX2_reach_10 : decode cX2_reach 10 = .ok (.if_icmp .ge 21, 3) := by decide +kernel
theorem dX2_reach_13 : decode cX2_reach 13 = .ok (.aload_n 0, 1) := by decide +kernel
theorem dX2_reach_14 : decode cX2_reach 14 = .ok (.getfield 22, 3) := by decide +kernel
theorem dX2_reach_17 : decode cX2_reach 17 = .ok (.iload_n 1, 1) := by decide +kernel
theorem dX2_reach_18 : decode cX2_reach 18 = .ok (.baload, 1) := by decide +kernel
theorem dX2_reach_19 : decode cX2_reach 19 = .ok (.ifCond .ne 12, 3) := by decide +kernel
theorem dX2_reach_22 : decode cX2_reach 22 = .ok (.iload_n 2, 1) := by decide +kernel
theorem dX2_reach_23 : decode cX2_reach 23 = .ok (.aload_n 0, 1) := by decide +kernel
theorem dX2_reach_24 : decode cX2_reach 24 = .ok (.getfield 18, 3) := by decide +kernel
theorem dX2_reach_27 : decode cX2_reach 27 = .ok (.arraylength, 1) := by decide +kernel
theorem dX2_reach_28 : decode cX2_reach 28 = .ok (.if_icmp .lt 5, 3) := by decide +kernel
theorem dX2_reach_31 : decode cX2_reach 31 = .ok (.iload_n 2, 1) := by decide +kernel
theorem dX2_reach_32 : decode cX2_reach 32 = .ok (.ireturn, 1) := by decide +kernel
theorem dX2_reach_33 : decode cX2_reach 33 = .ok (.aload_n 0, 1) := by decide +kernel
theorem dX2_reach_34 : decode cX2_reach 34 = .ok (.getfield 22, 3) := by decide +kernel
theorem dX2_reach_37 : decode cX2_reach 37 = .ok (.iload_n 1, 1) := by decide +kernel
theorem dX2_reach_38 : decode cX2_reach 38 = .ok (.iconst 1, 1) := by decide +kernel
theorem dX2_reach_39 : decode cX2_reach 39 = .ok (.bastore, 1) := by decide +kernel
theorem dX2_reach_40 : decode cX2_reach 40 = .ok (.aload_n 0, 1) := by decide +kernel
theorem dX2_reach_41 : decode cX2_reach 41 = .ok (.getfield 18, 3) := by decide +kernel
theorem dX2_reach_44 : decode cX2_reach 44 = .ok (.iload_n 2, 1) := by decide +kernel
theorem dX2_reach_45 : decode cX2_reach 45 = .ok (.iload_n 1, 1) := by decide +kernel
theorem dX2_reach_46 : decode cX2_reach 46 = .ok (.iastore, 1) := by decide +kernel
theorem dX2_reach_47 : decode cX2_reach 47 = .ok (.iload_n 2, 1) := by decide +kernel
theorem dX2_reach_48 : decode cX2_reach 48 = .ok (.iconst 1, 1) := by decide +kernel
theorem dX2_reach_49 : decode cX2_reach 49 = .ok (.iadd, 1) := by decide +kernel
theorem dX2_reach_50 : decode cX2_reach 50 = .ok (.ireturn, 1) := by decide +kernel
theorem dX2_leadsTo_0 : decode cX2_leadsTo 0 = .ok (.iconst 0, 1) := by decide +kernel
theorem dX2_leadsTo_1 : decode cX2_leadsTo 1 = .ok (.istore_n 3, 1) := by decide +kernel
theorem dX2_leadsTo_2 : decode cX2_leadsTo 2 = .ok (.iload_n 3, 1) := by decide +kernel
theorem dX2_leadsTo_3 : decode cX2_leadsTo 3 = .ok (.aload_n 0, 1) := by decide +kernel
theorem dX2_leadsTo_4 : decode cX2_leadsTo 4 = .ok (.getfield 22, 3) := by decide +kernel
theorem dX2_leadsTo_7 : decode cX2_leadsTo 7 = .ok (.arraylength, 1) := by decide +kernel
theorem dX2_leadsTo_8 : decode cX2_leadsTo 8 = .ok (.if_icmp .ge 16, 3) := by decide +kernel
theorem dX2_leadsTo_11 : decode cX2_leadsTo 11 = .ok (.aload_n 0, 1) := by decide +kernel
theorem dX2_leadsTo_12 : decode cX2_leadsTo 12 = .ok (.getfield 22, 3) := by decide +kernel
theorem dX2_leadsTo_15 : decode cX2_leadsTo 15 = .ok (.iload_n 3, 1) := by decide +kernel
theorem dX2_leadsTo_16 : decode cX2_leadsTo 16 = .ok (.iconst 0, 1) := by decide +kernel
theorem dX2_leadsTo_17 : decode cX2_leadsTo 17 = .ok (.bastore, 1) := by decide +kernel
theorem dX2_leadsTo_18 : decode cX2_leadsTo 18 = .ok (.iinc 3 1, 3) := by decide +kernel
theorem dX2_leadsTo_21 : decode cX2_leadsTo 21 = .ok (.goto (-19), 3) := by decide +kernel
theorem dX2_leadsTo_24 : decode cX2_leadsTo 24 = .ok (.aload_n 0, 1) := by decide +kernel
theorem dX2_leadsTo_25 : decode cX2_leadsTo 25 = .ok (.iload_n 1, 1) := by decide +kernel
theorem dX2_leadsTo_26 : decode cX2_leadsTo 26 = .ok (.iconst 0, 1) := by decide +kernel
theorem dX2_leadsTo_27 : decode cX2_leadsTo 27 = .ok (.invokevirtual 41, 3) := by decide +kernel
theorem dX2_leadsTo_30 : decode cX2_leadsTo 30 = .ok (.istore_n 3, 1) := by decide +kernel
theorem dX2_leadsTo_31 : decode cX2_leadsTo 31 = .ok (.iconst 0, 1) := by decide +kernel
theorem dX2_leadsTo_32 : decode cX2_leadsTo 32 = .ok (.istore 4, 2) := by decide +kernel
theorem dX2_leadsTo_34 : decode cX2_leadsTo 34 = .ok (.iload 4, 2) := by decide +kernel
theorem dX2_leadsTo_36 : decode cX2_leadsTo 36 = .ok (.iload_n 3, 1) := by decide +kernel
theorem dX2_leadsTo_37 : decode cX2_leadsTo 37 = .ok (.if_icmp .ge 81, 3) := by decide +kernel
theorem dX2_leadsTo_40 : decode cX2_leadsTo 40 = .ok (.iload 4, 2) := by decide +kernel
theorem dX2_leadsTo_42 : decode cX2_leadsTo 42 = .ok (.aload_n 0, 1) := by decide +kernel
theorem dX2_leadsTo_43 : decode cX2_leadsTo 43 = .ok (.getfield 18, 3) := by decide +kernel
theorem dX2_leadsTo_46 : decode cX2_leadsTo 46 = .ok (.arraylength, 1) := by decide +kernel
theorem dX2_leadsTo_47 : decode cX2_leadsTo 47 = .ok (.if_icmp .ge 71, 3) := by decide +kernel
theorem dX2_leadsTo_50 : decode cX2_leadsTo 50 = .ok (.aload_n 0, 1) := by decide +kernel
theorem dX2_leadsTo_51 : decode cX2_leadsTo 51 = .ok (.aload_n 0, 1) := by decide +kernel
theorem dX2_leadsTo_52 : decode cX2_leadsTo 52 = .ok (.getfield 18, 3) := by decide +kernel
theorem dX2_leadsTo_55 : decode cX2_leadsTo 55 = .ok (.iload 4, 2) := by decide +kernel
theorem dX2_leadsTo_57 : decode cX2_leadsTo 57 = .ok (.iaload, 1) := by decide +kernel
theorem dX2_leadsTo_58 : decode cX2_leadsTo 58 = .ok (.invokevirtual 45, 3) := by decide +kernel
theorem dX2_leadsTo_61 : decode cX2_leadsTo 61 = .ok (.astore 5, 2) := by decide +kernel
theorem dX2_leadsTo_63 : decode cX2_leadsTo 63 = .ok (.iconst 0, 1) := by decide +kernel
theorem dX2_leadsTo_64 : decode cX2_leadsTo 64 = .ok (.istore 6, 2) := by decide +kernel
theorem dX2_leadsTo_66 : decode cX2_leadsTo 66 = .ok (.aload 5, 2) := by decide +kernel
theorem dX2_leadsTo_68 : decode cX2_leadsTo 68 = .ok (.ifnull 44, 3) := by decide +kernel
theorem dX2_leadsTo_71 : decode cX2_leadsTo 71 = .ok (.iload 6, 2) := by decide +kernel
theorem dX2_leadsTo_73 : decode cX2_leadsTo 73 = .ok (.aload 5, 2) := by decide +kernel
theorem dX2_leadsTo_75 : decode cX2_leadsTo 75 = .ok (.getfield 49, 3) := by decide +kernel
theorem dX2_leadsTo_78 : decode cX2_leadsTo 78 = .ok (.if_icmp .ge 34, 3) := by decide +kernel
theorem dX2_leadsTo_81 : decode cX2_leadsTo 81 = .ok (.iload 6, 2) := by decide +kernel
theorem dX2_leadsTo_83 : decode cX2_leadsTo 83 = .ok (.aload 5, 2) := by decide +kernel
theorem dX2_leadsTo_85 : decode cX2_leadsTo 85 = .ok (.getfield 53, 3) := by decide +kernel
theorem dX2_leadsTo_88 : decode cX2_leadsTo 88 = .ok (.arraylength, 1) := by decide +kernel
theorem dX2_leadsTo_89 : decode cX2_leadsTo 89 = .ok (.if_icmp .ge 23, 3) := by decide +kernel
theorem dX2_leadsTo_92 : decode cX2_leadsTo 92 = .ok (.aload_n 0, 1) := by decide +kernel
theorem dX2_leadsTo_93 : decode cX2_leadsTo 93 = .ok (.aload 5, 2) := by decide +kernel
theorem dX2_leadsTo_95 : decode cX2_leadsTo 95 = .ok (.getfield 53, 3) := by decide +kernel
theorem dX2_leadsTo_98 : decode cX2_leadsTo 98 = .ok (.iload 6, 2) := by decide +kernel
theorem dX2_leadsTo_100 : decode cX2_leadsTo 100 = .ok (.iaload, 1) := by decide +kernel
theorem dX2_leadsTo_101 : decode cX2_leadsTo 101 = .ok (.iload_n 3, 1) := by decide +kernel
theorem dX2_leadsTo_102 : decode cX2_leadsTo 102 = .ok (.invokevirtual 41, 3) := by decide +kernel
theorem dX2_leadsTo_105 : decode cX2_leadsTo 105 = .ok (.istore_n 3, 1) := by decide +kernel
theorem dX2_leadsTo_106 : decode cX2_leadsTo 106 = .ok (.iinc 6 1, 3) := by decide +kernel
theorem dX2_leadsTo_109 : decode cX2_leadsTo 109 = .ok (.goto (-43), 3) := by decide +kernel
theorem dX2_leadsTo_112 : decode cX2_leadsTo 112 = .ok (.iinc 4 1, 3) := by decide +kernel
theorem dX2_leadsTo_115 : decode cX2_leadsTo 115 = .ok (.goto (-81), 3) := by decide +kernel
theorem dX2_leadsTo_118 : decode cX2_leadsTo 118 = .ok (.iload_n 2, 1) := by decide +kernel
theorem dX2_leadsTo_119 : decode cX2_leadsTo 119 = .ok (.ifCond .lt 25, 3) := by decide +kernel
theorem dX2_leadsTo_122 : decode cX2_leadsTo 122 = .ok (.iload_n 2, 1) := by decide +kernel
theorem dX2_leadsTo_123 : decode cX2_leadsTo 123 = .ok (.aload_n 0, 1) := by decide +kernel
theorem dX2_leadsTo_124 : decode cX2_leadsTo 124 = .ok (.getfield 22, 3) := by decide +kernel
theorem dX2_leadsTo_127 : decode cX2_leadsTo 127 = .ok (.arraylength, 1) := by decide +kernel
theorem dX2_leadsTo_128 : decode cX2_leadsTo 128 = .ok (.if_icmp .ge 16, 3) := by decide +kernel
theorem dX2_leadsTo_131 : decode cX2_leadsTo 131 = .ok (.aload_n 0, 1) := by decide +kernel
theorem dX2_leadsTo_132 : decode cX2_leadsTo 132 = .ok (.getfield 22, 3) := by decide +kernel
theorem dX2_leadsTo_135 : decode cX2_leadsTo 135 = .ok (.iload_n 2, 1) := by decide +kernel
theorem dX2_leadsTo_136 : decode cX2_leadsTo 136 = .ok (.baload, 1) := by decide +kernel
theorem dX2_leadsTo_137 : decode cX2_leadsTo 137 = .ok (.ifCond .eq 7, 3) := by decide +kernel
theorem dX2_leadsTo_140 : decode cX2_leadsTo 140 = .ok (.iconst 1, 1) := by decide +kernel
theorem dX2_leadsTo_141 : decode cX2_leadsTo 141 = .ok (.goto 4, 3) := by decide +kernel
theorem dX2_leadsTo_144 : decode cX2_leadsTo 144 = .ok (.iconst 0, 1) := by decide +kernel
theorem dX2_leadsTo_145 : decode cX2_leadsTo 145 = .ok (.ireturn, 1) := by decide +kernel
theorem dX3_init_0 : decode cX3_init 0 = .ok (.aload_n 0, 1) := by decide +kernel
theorem dX3_init_1 : decode cX3_init 1 = .ok (.invokespecial 3, 3) := by decide +kernel
theorem dX3_init_4 : decode cX3_init 4 = .ok (.aload_n 0, 1) := by decide +kernel
theorem dX3_init_5 : decode cX3_init 5 = .ok (.iload_n 1, 1) := by decide +kernel
theorem dX3_init_6 : decode cX3_init 6 = .ok (.putfield 9, 3) := by decide +kernel
theorem dX3_init_9 : decode cX3_init 9 = .ok (.aload_n 0, 1) := by decide +kernel
theorem dX3_init_10 : decode cX3_init 10 = .ok (.iload_n 2, 1) := by decide +kernel
theorem dX3_init_11 : decode cX3_init 11 = .ok (.putfield 15, 3) := by decide +kernel
theorem dX3_init_14 : decode cX3_init 14 = .ok (.aload_n 0, 1) := by decide +kernel
theorem dX3_init_15 : decode cX3_init 15 = .ok (.iload_n 3, 1) := by decide +kernel
theorem dX3_init_16 : decode cX3_init 16 = .ok (.putfield 18, 3) := by decide +kernel
theorem dX3_init_19 : decode cX3_init 19 = .ok (.aload_n 0, 1) := by decide +kernel
theorem dX3_init_20 : decode cX3_init 20 = .ok (.iload 4, 2) := by decide +kernel
theorem dX3_init_22 : decode cX3_init 22 = .ok (.putfield 21, 3) := by decide +kernel
theorem dX3_init_25 : decode cX3_init 25 = .ok (.aload_n 0, 1) := by decide +kernel
theorem dX3_init_26 : decode cX3_init 26 = .ok (.iload 5, 2) := by decide +kernel
theorem dX3_init_28 : decode cX3_init 28 = .ok (.putfield 24, 3) := by decide +kernel
theorem dX3_init_31 : decode cX3_init 31 = .ok (.aload_n 0, 1) := by decide +kernel
theorem dX3_init_32 : decode cX3_init 32 = .ok (.iload 6, 2) := by decide +kernel
theorem dX3_init_34 : decode cX3_init 34 = .ok (.putfield 27, 3) := by decide +kernel
theorem dX3_init_37 : decode cX3_init 37 = .ok (.aload_n 0, 1) := by decide +kernel
theorem dX3_init_38 : decode cX3_init 38 = .ok (.aload 7, 2) := by decide +kernel
theorem dX3_init_40 : decode cX3_init 40 = .ok (.putfield 30, 3) := by decide +kernel
theorem dX3_init_43 : decode cX3_init 43 = .ok (.return_, 1) := by decide +kernel
theorem dX3_tell_0 : decode cX3_tell 0 = .ok (.iload_n 1, 1) := by decide +kernel
theorem dX3_tell_1 : decode cX3_tell 1 = .ok (.tableswitch 64 0 4 #[35, 40, 47, 54, 59], 35) := by decide +kernel
theorem dX3_tell_36 : decode cX3_tell 36 = .ok (.aload_n 0, 1) := by decide +kernel
theorem dX3_tell_37 : decode cX3_tell 37 = .ok (.getfield 9, 3) := by decide +kernel
theorem dX3_tell_40 : decode cX3_tell 40 = .ok (.ireturn, 1) := by decide +kernel
theorem dX3_tell_41 : decode cX3_tell 41 = .ok (.aload_n 0, 1) := by decide +kernel
theorem dX3_tell_42 : decode cX3_tell 42 = .ok (.getfield 15, 3) := by decide +kernel
theorem dX3_tell_45 : decode cX3_tell 45 = .ok (.iconst 4, 1) := by decide +kernel
theorem dX3_tell_46 : decode cX3_tell 46 = .ok (.idiv, 1) := by decide +kernel
theorem dX3_tell_47 : decode cX3_tell 47 = .ok (.ireturn, 1) := by decide +kernel
theorem dX3_tell_48 : decode cX3_tell 48 = .ok (.aload_n 0, 1) := by decide +kernel
theorem dX3_tell_49 : decode cX3_tell 49 = .ok (.getfield 15, 3) := by decide +kernel
theorem dX3_tell_52 : decode cX3_tell 52 = .ok (.iconst 4, 1) := by decide +kernel
theorem dX3_tell_53 : decode cX3_tell 53 = .ok (.irem, 1) := by decide +kernel
theorem dX3_tell_54 : decode cX3_tell 54 = .ok (.ireturn, 1) := by decide +kernel
theorem dX3_tell_55 : decode cX3_tell 55 = .ok (.aload_n 0, 1) := by decide +kernel
theorem dX3_tell_56 : decode cX3_tell 56 = .ok (.getfield 18, 3) := by decide +kernel
theorem dX3_tell_59 : decode cX3_tell 59 = .ok (.ireturn, 1) := by decide +kernel
theorem dX3_tell_60 : decode cX3_tell 60 = .ok (.aload_n 0, 1) := by decide +kernel
theorem dX3_tell_61 : decode cX3_tell 61 = .ok (.getfield 21, 3) := by decide +kernel
theorem dX3_tell_64 : decode cX3_tell 64 = .ok (.ireturn, 1) := by decide +kernel
theorem dX3_tell_65 : decode cX3_tell 65 = .ok (.iconst (-1), 1) := by decide +kernel
theorem dX3_tell_66 : decode cX3_tell 66 = .ok (.ireturn, 1) := by decide +kernel
theorem dX4_init_0 : decode cX4_init 0 = .ok (.aload_n 0, 1) := by decide +kernel
theorem dX4_init_1 : decode cX4_init 1 = .ok (.invokespecial 3, 3) := by decide +kernel
theorem dX4_init_4 : decode cX4_init 4 = .ok (.aload_n 0, 1) := by decide +kernel
theorem dX4_init_5 : decode cX4_init 5 = .ok (.sipush 480, 3) := by decide +kernel
theorem dX4_init_8 : decode cX4_init 8 = .ok (.newarray .int, 2) := by decide +kernel
theorem dX4_init_10 : decode cX4_init 10 = .ok (.putfield 9, 3) := by decide +kernel
theorem dX4_init_13 : decode cX4_init 13 = .ok (.aload_n 0, 1) := by decide +kernel
theorem dX4_init_14 : decode cX4_init 14 = .ok (.sipush 480, 3) := by decide +kernel
theorem dX4_init_17 : decode cX4_init 17 = .ok (.newarray .int, 2) := by decide +kernel
theorem dX4_init_19 : decode cX4_init 19 = .ok (.putfield 15, 3) := by decide +kernel
theorem dX4_init_22 : decode cX4_init 22 = .ok (.aload_n 0, 1) := by decide +kernel
theorem dX4_init_23 : decode cX4_init 23 = .ok (.bipush 81, 2) := by decide +kernel
theorem dX4_init_25 : decode cX4_init 25 = .ok (.newarray .int, 2) := by decide +kernel
theorem dX4_init_27 : decode cX4_init 27 = .ok (.putfield 18, 3) := by decide +kernel
theorem dX4_init_30 : decode cX4_init 30 = .ok (.return_, 1) := by decide +kernel
theorem dX6_handAt_0 : decode cX6_handAt 0 = .ok (.iload_n 1, 1) := by decide +kernel
theorem dX6_handAt_1 : decode cX6_handAt 1 = .ok (.ifCond .lt 14, 3) := by decide +kernel
theorem dX6_handAt_4 : decode cX6_handAt 4 = .ok (.iload_n 1, 1) := by decide +kernel
theorem dX6_handAt_5 : decode cX6_handAt 5 = .ok (.aload_n 0, 1) := by decide +kernel
theorem dX6_handAt_6 : decode cX6_handAt 6 = .ok (.getfield 12, 3) := by decide +kernel
theorem dX6_handAt_9 : decode cX6_handAt 9 = .ok (.invokevirtual 31, 3) := by decide +kernel
theorem dX6_handAt_12 : decode cX6_handAt 12 = .ok (.if_icmp .lt 7, 3) := by decide +kernel
theorem dX6_handAt_15 : decode cX6_handAt 15 = .ok (.aconst_null, 1) := by decide +kernel
theorem dX6_handAt_16 : decode cX6_handAt 16 = .ok (.goto 14, 3) := by decide +kernel
theorem dX6_handAt_19 : decode cX6_handAt 19 = .ok (.aload_n 0, 1) := by decide +kernel
theorem dX6_handAt_20 : decode cX6_handAt 20 = .ok (.getfield 12, 3) := by decide +kernel
theorem dX6_handAt_23 : decode cX6_handAt 23 = .ok (.iload_n 1, 1) := by decide +kernel
theorem dX6_handAt_24 : decode cX6_handAt 24 = .ok (.invokevirtual 35, 3) := by decide +kernel
theorem dX6_handAt_27 : decode cX6_handAt 27 = .ok (.checkcast 22, 3) := by decide +kernel
theorem dX6_handAt_30 : decode cX6_handAt 30 = .ok (.areturn, 1) := by decide +kernel
theorem dX5_memoryAt_0 : decode cX5_memoryAt 0 = .ok (.iload_n 1, 1) := by decide +kernel
theorem dX5_memoryAt_1 : decode cX5_memoryAt 1 = .ok (.ifCond .lt 12, 3) := by decide +kernel
theorem dX5_memoryAt_4 : decode cX5_memoryAt 4 = .ok (.iload_n 1, 1) := by decide +kernel
theorem dX5_memoryAt_5 : decode cX5_memoryAt 5 = .ok (.aload_n 0, 1) := by decide +kernel
theorem dX5_memoryAt_6 : decode cX5_memoryAt 6 = .ok (.getfield 11, 3) := by decide +kernel
theorem dX5_memoryAt_9 : decode cX5_memoryAt 9 = .ok (.arraylength, 1) := by decide +kernel
theorem dX5_memoryAt_10 : decode cX5_memoryAt 10 = .ok (.if_icmp .lt 7, 3) := by decide +kernel
theorem dX5_memoryAt_13 : decode cX5_memoryAt 13 = .ok (.aconst_null, 1) := by decide +kernel
theorem dX5_memoryAt_14 : decode cX5_memoryAt 14 = .ok (.goto 9, 3) := by decide +kernel
theorem dX5_memoryAt_17 : decode cX5_memoryAt 17 = .ok (.aload_n 0, 1) := by decide +kernel
theorem dX5_memoryAt_18 : decode cX5_memoryAt 18 = .ok (.getfield 11, 3) := by decide +kernel
theorem dX5_memoryAt_21 : decode cX5_memoryAt 21 = .ok (.iload_n 1, 1) := by decide +kernel
theorem dX5_memoryAt_22 : decode cX5_memoryAt 22 = .ok (.aaload, 1) := by decide +kernel
theorem dX5_memoryAt_23 : decode cX5_memoryAt 23 = .ok (.areturn, 1) := by decide +kernel
theorem dX6_memoryAt_0 : decode cX6_memoryAt 0 = .ok (.iload_n 1, 1) := by decide +kernel
theorem dX6_memoryAt_1 : decode cX6_memoryAt 1 = .ok (.ifCond .ge 7, 3) := by decide +kernel
theorem dX6_memoryAt_4 : decode cX6_memoryAt 4 = .ok (.aconst_null, 1) := by decide +kernel
theorem dX6_memoryAt_5 : decode cX6_memoryAt 5 = .ok (.goto 10, 3) := by decide +kernel
theorem dX6_memoryAt_8 : decode cX6_memoryAt 8 = .ok (.aload_n 0, 1) := by decide +kernel
theorem dX6_memoryAt_9 : decode cX6_memoryAt 9 = .ok (.iload_n 1, 1) := by decide +kernel
theorem dX6_memoryAt_10 : decode cX6_memoryAt 10 = .ok (.iconst 4, 1) := by decide +kernel
theorem dX6_memoryAt_11 : decode cX6_memoryAt 11 = .ok (.idiv, 1) := by decide +kernel
theorem dX6_memoryAt_12 : decode cX6_memoryAt 12 = .ok (.invokevirtual 39, 3) := by decide +kernel
theorem dX6_memoryAt_15 : decode cX6_memoryAt 15 = .ok (.astore_n 2, 1) := by decide +kernel
theorem dX6_memoryAt_16 : decode cX6_memoryAt 16 = .ok (.aload_n 2, 1) := by decide +kernel
theorem dX6_memoryAt_17 : decode cX6_memoryAt 17 = .ok (.ifnonnull 7, 3) := by decide +kernel
theorem dX6_memoryAt_20 : decode cX6_memoryAt 20 = .ok (.aconst_null, 1) := by decide +kernel
theorem dX6_memoryAt_21 : decode cX6_memoryAt 21 = .ok (.goto 10, 3) := by decide +kernel
theorem dX6_memoryAt_24 : decode cX6_memoryAt 24 = .ok (.aload_n 2, 1) := by decide +kernel
theorem dX6_memoryAt_25 : decode cX6_memoryAt 25 = .ok (.iload_n 1, 1) := by decide +kernel
theorem dX6_memoryAt_26 : decode cX6_memoryAt 26 = .ok (.iconst 4, 1) := by decide +kernel
theorem dX6_memoryAt_27 : decode cX6_memoryAt 27 = .ok (.irem, 1) := by decide +kernel
theorem dX6_memoryAt_28 : decode cX6_memoryAt 28 = .ok (.invokevirtual 43, 3) := by decide +kernel
theorem dX6_memoryAt_31 : decode cX6_memoryAt 31 = .ok (.areturn, 1) := by decide +kernel
theorem dX8_isToCome_0 : decode cX8_isToCome 0 = .ok (.aload_n 0, 1) := by decide +kernel
theorem dX8_isToCome_1 : decode cX8_isToCome 1 = .ok (.getfield 23, 3) := by decide +kernel
theorem dX8_isToCome_4 : decode cX8_isToCome 4 = .ok (.ifCond .le 16, 3) := by decide +kernel
theorem dX8_isToCome_7 : decode cX8_isToCome 7 = .ok (.aload_n 0, 1) := by decide +kernel
theorem dX8_isToCome_8 : decode cX8_isToCome 8 = .ok (.getfield 29, 3) := by decide +kernel
theorem dX8_isToCome_11 : decode cX8_isToCome 11 = .ok (.bipush 8, 2) := by decide +kernel
theorem dX8_isToCome_13 : decode cX8_isToCome 13 = .ok (.if_icmp .ge 7, 3) := by decide +kernel
theorem dX8_isToCome_16 : decode cX8_isToCome 16 = .ok (.iconst 1, 1) := by decide +kernel
theorem dX8_isToCome_17 : decode cX8_isToCome 17 = .ok (.goto 4, 3) := by decide +kernel
theorem dX8_isToCome_20 : decode cX8_isToCome 20 = .ok (.iconst 0, 1) := by decide +kernel
theorem dX8_isToCome_21 : decode cX8_isToCome 21 = .ok (.ireturn, 1) := by decide +kernel
theorem dX8_firstDue_0 : decode cX8_firstDue 0 = .ok (.aload_n 2, 1) := by decide +kernel
theorem dX8_firstDue_1 : decode cX8_firstDue 1 = .ok (.getfield 63, 3) := by decide +kernel
theorem dX8_firstDue_4 : decode cX8_firstDue 4 = .ok (.aload_n 0, 1) := by decide +kernel
theorem dX8_firstDue_5 : decode cX8_firstDue 5 = .ok (.getfield 23, 3) := by decide +kernel
theorem dX8_firstDue_8 : decode cX8_firstDue 8 = .ok (.imul, 1) := by decide +kernel
theorem dX8_firstDue_9 : decode cX8_firstDue 9 = .ok (.sipush 15999, 3) := by decide +kernel
theorem dX8_firstDue_12 : decode cX8_firstDue 12 = .ok (.iadd, 1) := by decide +kernel
theorem dX8_firstDue_13 : decode cX8_firstDue 13 = .ok (.sipush 16000, 3) := by decide +kernel
theorem dX8_firstDue_16 : decode cX8_firstDue 16 = .ok (.idiv, 1) := by decide +kernel
theorem dX8_firstDue_17 : decode cX8_firstDue 17 = .ok (.istore_n 3, 1) := by decide +kernel
theorem dX8_firstDue_18 : decode cX8_firstDue 18 = .ok (.iload_n 1, 1) := by decide +kernel
theorem dX8_firstDue_19 : decode cX8_firstDue 19 = .ok (.aload_n 0, 1) := by decide +kernel
theorem dX8_firstDue_20 : decode cX8_firstDue 20 = .ok (.getfield 15, 3) := by decide +kernel
theorem dX8_firstDue_23 : decode cX8_firstDue 23 = .ok (.iload_n 3, 1) := by decide +kernel
theorem dX8_firstDue_24 : decode cX8_firstDue 24 = .ok (.iadd, 1) := by decide +kernel
theorem dX8_firstDue_25 : decode cX8_firstDue 25 = .ok (.invokestatic 66, 3) := by decide +kernel
theorem dX8_firstDue_28 : decode cX8_firstDue 28 = .ok (.ireturn, 1) := by decide +kernel
theorem dX4_addSide_0 : decode cX4_addSide 0 = .ok (.iload_n 2, 1) := by decide +kernel
theorem dX4_addSide_1 : decode cX4_addSide 1 = .ok (.bipush 60, 2) := by decide +kernel
theorem dX4_addSide_3 : decode cX4_addSide 3 = .ok (.if_icmp .gt 15, 3) := by decide +kernel
theorem dX4_addSide_6 : decode cX4_addSide 6 = .ok (.aload_n 0, 1) := by decide +kernel
theorem dX4_addSide_7 : decode cX4_addSide 7 = .ok (.getfield 21, 3) := by decide +kernel
theorem dX4_addSide_10 : decode cX4_addSide 10 = .ok (.aload_n 0, 1) := by decide +kernel
theorem dX4_addSide_11 : decode cX4_addSide 11 = .ok (.getfield 9, 3) := by decide +kernel
theorem dX4_addSide_14 : decode cX4_addSide 14 = .ok (.arraylength, 1) := by decide +kernel
theorem dX4_addSide_15 : decode cX4_addSide 15 = .ok (.if_icmp .lt 4, 3) := by decide +kernel
theorem dX4_addSide_18 : decode cX4_addSide 18 = .ok (.return_, 1) := by decide +kernel
theorem dX4_addSide_19 : decode cX4_addSide 19 = .ok (.iload_n 2, 1) := by decide +kernel
theorem dX4_addSide_20 : decode cX4_addSide 20 = .ok (.sipush 480, 3) := by decide +kernel
theorem dX4_addSide_23 : decode cX4_addSide 23 = .ok (.imul, 1) := by decide +kernel
theorem dX4_addSide_24 : decode cX4_addSide 24 = .ok (.iload_n 1, 1) := by decide +kernel
theorem dX4_addSide_25 : decode cX4_addSide 25 = .ok (.iadd, 1) := by decide +kernel
theorem dX4_addSide_26 : decode cX4_addSide 26 = .ok (.istore_n 3, 1) := by decide +kernel
theorem dX4_addSide_27 : decode cX4_addSide 27 = .ok (.aload_n 0, 1) := by decide +kernel
theorem dX4_addSide_28 : decode cX4_addSide 28 = .ok (.getfield 21, 3) := by decide +kernel
theorem dX4_addSide_31 : decode cX4_addSide 31 = .ok (.istore 4, 2) := by decide +kernel
theorem dX4_addSide_33 : decode cX4_addSide 33 = .ok (.iload 4, 2) := by decide +kernel
theorem dX4_addSide_35 : decode cX4_addSide 35 = .ok (.ifCond .le 48, 3) := by decide +kernel
theorem dX4_addSide_38 : decode cX4_addSide 38 = .ok (.iload 4, 2) := by decide +kernel
theorem dX4_addSide_40 : decode cX4_addSide 40 = .ok (.aload_n 0, 1) := by decide +kernel
theorem dX4_addSide_41 : decode cX4_addSide 41 = .ok (.getfield 9, 3) := by decide +kernel
theorem dX4_addSide_44 : decode cX4_addSide 44 = .ok (.arraylength, 1) := by decide +kernel
theorem dX4_addSide_45 : decode cX4_addSide 45 = .ok (.if_icmp .ge 38, 3) := by decide +kernel
theorem dX4_addSide_48 : decode cX4_addSide 48 = .ok (.aload_n 0, 1) := by decide +kernel
theorem dX4_addSide_49 : decode cX4_addSide 49 = .ok (.getfield 9, 3) := by decide +kernel
theorem dX4_addSide_52 : decode cX4_addSide 52 = .ok (.iload 4, 2) := by decide +kernel
theorem dX4_addSide_54 : decode cX4_addSide 54 = .ok (.iconst 1, 1) := by decide +kernel
theorem dX4_addSide_55 : decode cX4_addSide 55 = .ok (.isub, 1) := by decide +kernel
theorem dX4_addSide_56 : decode cX4_addSide 56 = .ok (.iaload, 1) := by decide +kernel
theorem dX4_addSide_57 : decode cX4_addSide 57 = .ok (.iload_n 3, 1) := by decide +kernel
theorem dX4_addSide_58 : decode cX4_addSide 58 = .ok (.if_icmp .le 25, 3) := by decide +kernel
theorem dX4_addSide_61 : decode cX4_addSide 61 = .ok (.aload_n 0, 1) := by decide +kernel
theorem dX4_addSide_62 : decode cX4_addSide 62 = .ok (.getfield 9, 3) := by decide +kernel
theorem dX4_addSide_65 : decode cX4_addSide 65 = .ok (.iload 4, 2) := by decide +kernel
theorem dX4_addSide_67 : decode cX4_addSide 67 = .ok (.aload_n 0, 1) := by decide +kernel
theorem dX4_addSide_68 : decode cX4_addSide 68 = .ok (.getfield 9, 3) := by decide +kernel
theorem dX4_addSide_71 : decode cX4_addSide 71 = .ok (.iload 4, 2) := by decide +kernel
theorem dX4_addSide_73 : decode cX4_addSide 73 = .ok (.iconst 1, 1) := by decide +kernel
theorem dX4_addSide_74 : decode cX4_addSide 74 = .ok (.isub, 1) := by decide +kernel
theorem dX4_addSide_75 : decode cX4_addSide 75 = .ok (.iaload, 1) := by decide +kernel
theorem dX4_addSide_76 : decode cX4_addSide 76 = .ok (.iastore, 1) := by decide +kernel
theorem dX4_addSide_77 : decode cX4_addSide 77 = .ok (.iinc 4 (-1), 3) := by decide +kernel
theorem dX4_addSide_80 : decode cX4_addSide 80 = .ok (.goto (-47), 3) := by decide +kernel
theorem dX4_addSide_83 : decode cX4_addSide 83 = .ok (.iload 4, 2) := by decide +kernel
theorem dX4_addSide_85 : decode cX4_addSide 85 = .ok (.ifCond .lt 21, 3) := by decide +kernel
theorem dX4_addSide_88 : decode cX4_addSide 88 = .ok (.iload 4, 2) := by decide +kernel
theorem dX4_addSide_90 : decode cX4_addSide 90 = .ok (.aload_n 0, 1) := by decide +kernel
theorem dX4_addSide_91 : decode cX4_addSide 91 = .ok (.getfield 9, 3) := by decide +kernel
theorem dX4_addSide_94 : decode cX4_addSide 94 = .ok (.arraylength, 1) := by decide +kernel
theorem dX4_addSide_95 : decode cX4_addSide 95 = .ok (.if_icmp .ge 11, 3) := by decide +kernel
theorem dX4_addSide_98 : decode cX4_addSide 98 = .ok (.aload_n 0, 1) := by decide +kernel
theorem dX4_addSide_99 : decode cX4_addSide 99 = .ok (.getfield 9, 3) := by decide +kernel
theorem dX4_addSide_102 : decode cX4_addSide 102 = .ok (.iload 4, 2) := by decide +kernel
theorem dX4_addSide_104 : decode cX4_addSide 104 = .ok (.iload_n 3, 1) := by decide +kernel
theorem dX4_addSide_105 : decode cX4_addSide 105 = .ok (.iastore, 1) := by decide +kernel
theorem dX4_addSide_106 : decode cX4_addSide 106 = .ok (.aload_n 0, 1) := by decide +kernel
theorem dX4_addSide_107 : decode cX4_addSide 107 = .ok (.dup, 1) := by decide +kernel
theorem dX4_addSide_108 : decode cX4_addSide 108 = .ok (.getfield 21, 3) := by decide +kernel
theorem dX4_addSide_111 : decode cX4_addSide 111 = .ok (.iconst 1, 1) := by decide +kernel
theorem dX4_addSide_112 : decode cX4_addSide 112 = .ok (.iadd, 1) := by decide +kernel
theorem dX4_addSide_113 : decode cX4_addSide 113 = .ok (.putfield 21, 3) := by decide +kernel
theorem dX4_addSide_116 : decode cX4_addSide 116 = .ok (.return_, 1) := by decide +kernel
theorem dX4_gather_0 : decode cX4_gather 0 = .ok (.aload_n 0, 1) := by decide +kernel
theorem dX4_gather_1 : decode cX4_gather 1 = .ok (.iconst 0, 1) := by decide +kernel
theorem dX4_gather_2 : decode cX4_gather 2 = .ok (.putfield 21, 3) := by decide +kernel
theorem dX4_gather_5 : decode cX4_gather 5 = .ok (.iconst 0, 1) := by decide +kernel
theorem dX4_gather_6 : decode cX4_gather 6 = .ok (.istore_n 3, 1) := by decide +kernel
theorem dX4_gather_7 : decode cX4_gather 7 = .ok (.iload_n 3, 1) := by decide +kernel
theorem dX4_gather_8 : decode cX4_gather 8 = .ok (.aload_n 0, 1) := by decide +kernel
theorem dX4_gather_9 : decode cX4_gather 9 = .ok (.getfield 15, 3) := by decide +kernel
theorem dX4_gather_12 : decode cX4_gather 12 = .ok (.arraylength, 1) := by decide +kernel
theorem dX4_gather_13 : decode cX4_gather 13 = .ok (.if_icmp .ge 56, 3) := by decide +kernel
theorem dX4_gather_16 : decode cX4_gather 16 = .ok (.aload_n 0, 1) := by decide +kernel
theorem dX4_gather_17 : decode cX4_gather 17 = .ok (.getfield 15, 3) := by decide +kernel
theorem dX4_gather_20 : decode cX4_gather 20 = .ok (.iload_n 3, 1) := by decide +kernel
theorem dX4_gather_21 : decode cX4_gather 21 = .ok (.iconst (-1), 1) := by decide +kernel
theorem dX4_gather_22 : decode cX4_gather 22 = .ok (.iastore, 1) := by decide +kernel
theorem dX4_gather_23 : decode cX4_gather 23 = .ok (.aload_n 1, 1) := by decide +kernel
theorem dX4_gather_24 : decode cX4_gather 24 = .ok (.iload_n 3, 1) := by decide +kernel
theorem dX4_gather_25 : decode cX4_gather 25 = .ok (.invokevirtual 25, 3) := by decide +kernel
theorem dX4_gather_28 : decode cX4_gather 28 = .ok (.astore 4, 2) := by decide +kernel
theorem dX4_gather_30 : decode cX4_gather 30 = .ok (.aload 4, 2) := by decide +kernel
theorem dX4_gather_32 : decode cX4_gather 32 = .ok (.ifnull 31, 3) := by decide +kernel
theorem dX4_gather_35 : decode cX4_gather 35 = .ok (.aload 4, 2) := by decide +kernel
theorem dX4_gather_37 : decode cX4_gather 37 = .ok (.invokevirtual 31, 3) := by decide +kernel
theorem dX4_gather_40 : decode cX4_gather 40 = .ok (.ifCond .eq 23, 3) := by decide +kernel
theorem dX4_gather_43 : decode cX4_gather 43 = .ok (.aload_n 0, 1) := by decide +kernel
theorem dX4_gather_44 : decode cX4_gather 44 = .ok (.iload_n 3, 1) := by decide +kernel
theorem dX4_gather_45 : decode cX4_gather 45 = .ok (.aload 4, 2) := by decide +kernel
theorem dX4_gather_47 : decode cX4_gather 47 = .ok (.aload_n 1, 1) := by decide +kernel
theorem dX4_gather_48 : decode cX4_gather 48 = .ok (.getfield 37, 3) := by decide +kernel
theorem dX4_gather_51 : decode cX4_gather 51 = .ok (.aload_n 2, 1) := by decide +kernel
theorem dX4_gather_52 : decode cX4_gather 52 = .ok (.invokevirtual 40, 3) := by decide +kernel
theorem dX4_gather_55 : decode cX4_gather 55 = .ok (.aload_n 1, 1) := by decide +kernel
theorem dX4_gather_56 : decode cX4_gather 56 = .ok (.getfield 37, 3) := by decide +kernel
theorem dX4_gather_59 : decode cX4_gather 59 = .ok (.isub, 1) := by decide +kernel
theorem dX4_gather_60 : decode cX4_gather 60 = .ok (.invokevirtual 44, 3) := by decide +kernel
theorem dX4_gather_63 : decode cX4_gather 63 = .ok (.iinc 3 1, 3) := by decide +kernel
theorem dX4_gather_66 : decode cX4_gather 66 = .ok (.goto (-59), 3) := by decide +kernel
theorem dX4_gather_69 : decode cX4_gather 69 = .ok (.aload_n 0, 1) := by decide +kernel
theorem dX4_gather_70 : decode cX4_gather 70 = .ok (.iconst 1, 1) := by decide +kernel
theorem dX4_gather_71 : decode cX4_gather 71 = .ok (.putfield 48, 3) := by decide +kernel
theorem dX4_gather_74 : decode cX4_gather 74 = .ok (.return_, 1) := by decide +kernel
theorem dX4_putOn_0 : decode cX4_putOn 0 = .ok (.iload_n 1, 1) := by decide +kernel
theorem dX4_putOn_1 : decode cX4_putOn 1 = .ok (.ifCond .lt 19, 3) := by decide +kernel
theorem dX4_putOn_4 : decode cX4_putOn 4 = .ok (.iload_n 1, 1) := by decide +kernel
theorem dX4_putOn_5 : decode cX4_putOn 5 = .ok (.aload_n 0, 1) := by decide +kernel
theorem dX4_putOn_6 : decode cX4_putOn 6 = .ok (.getfield 15, 3) := by decide +kernel
theorem dX4_putOn_9 : decode cX4_putOn 9 = .ok (.arraylength, 1) := by decide +kernel
theorem dX4_putOn_10 : decode cX4_putOn 10 = .ok (.if_icmp .ge 10, 3) := by decide +kernel
theorem dX4_putOn_13 : decode cX4_putOn 13 = .ok (.aload_n 0, 1) := by decide +kernel
theorem dX4_putOn_14 : decode cX4_putOn 14 = .ok (.getfield 15, 3) := by decide +kernel
theorem dX4_putOn_17 : decode cX4_putOn 17 = .ok (.iload_n 1, 1) := by decide +kernel
theorem dX4_putOn_18 : decode cX4_putOn 18 = .ok (.iload_n 2, 1) := by decide +kernel
theorem dX4_putOn_19 : decode cX4_putOn 19 = .ok (.iastore, 1) := by decide +kernel
theorem dX4_putOn_20 : decode cX4_putOn 20 = .ok (.return_, 1) := by decide +kernel
theorem dX4_fits_0 : decode cX4_fits 0 = .ok (.iconst 0, 1) := by decide +kernel
theorem dX4_fits_1 : decode cX4_fits 1 = .ok (.istore_n 3, 1) := by decide +kernel
theorem dX4_fits_2 : decode cX4_fits 2 = .ok (.iconst 0, 1) := by decide +kernel
theorem dX4_fits_3 : decode cX4_fits 3 = .ok (.istore 4, 2) := by decide +kernel
theorem dX4_fits_5 : decode cX4_fits 5 = .ok (.iload 4, 2) := by decide +kernel
theorem dX4_fits_7 : decode cX4_fits 7 = .ok (.aload_n 0, 1) := by decide +kernel
theorem dX4_fits_8 : decode cX4_fits 8 = .ok (.getfield 18, 3) := by decide +kernel
theorem dX4_fits_11 : decode cX4_fits 11 = .ok (.arraylength, 1) := by decide +kernel
theorem dX4_fits_12 : decode cX4_fits 12 = .ok (.if_icmp .ge 112, 3) := by decide +kernel
theorem dX4_fits_15 : decode cX4_fits 15 = .ok (.iload_n 3, 1) := by decide +kernel
theorem dX4_fits_16 : decode cX4_fits 16 = .ok (.istore 5, 2) := by decide +kernel
theorem dX4_fits_18 : decode cX4_fits 18 = .ok (.iload 5, 2) := by decide +kernel
theorem dX4_fits_20 : decode cX4_fits 20 = .ok (.aload_n 0, 1) := by decide +kernel
theorem dX4_fits_21 : decode cX4_fits 21 = .ok (.getfield 21, 3) := by decide +kernel
theorem dX4_fits_24 : decode cX4_fits 24 = .ok (.if_icmp .ge 80, 3) := by decide +kernel
theorem dX4_fits_27 : decode cX4_fits 27 = .ok (.iload 5, 2) := by decide +kernel
theorem dX4_fits_29 : decode cX4_fits 29 = .ok (.aload_n 0, 1) := by decide +kernel
theorem dX4_fits_30 : decode cX4_fits 30 = .ok (.getfield 9, 3) := by decide +kernel
theorem dX4_fits_33 : decode cX4_fits 33 = .ok (.arraylength, 1) := by decide +kernel
theorem dX4_fits_34 : decode cX4_fits 34 = .ok (.if_icmp .ge 70, 3) := by decide +kernel
theorem dX4_fits_37 : decode cX4_fits 37 = .ok (.iload 5, 2) := by decide +kernel
theorem dX4_fits_39 : decode cX4_fits 39 = .ok (.iload_n 3, 1) := by decide +kernel
theorem dX4_fits_40 : decode cX4_fits 40 = .ok (.isub, 1) := by decide +kernel
theorem dX4_fits_41 : decode cX4_fits 41 = .ok (.iload_n 1, 1) := by decide +kernel
theorem dX4_fits_42 : decode cX4_fits 42 = .ok (.if_icmp .ge 62, 3) := by decide +kernel
theorem dX4_fits_45 : decode cX4_fits 45 = .ok (.aload_n 0, 1) := by decide +kernel
theorem dX4_fits_46 : decode cX4_fits 46 = .ok (.getfield 9, 3) := by decide +kernel
theorem dX4_fits_49 : decode cX4_fits 49 = .ok (.iload 5, 2) := by decide +kernel
theorem dX4_fits_51 : decode cX4_fits 51 = .ok (.iaload, 1) := by decide +kernel
theorem dX4_fits_52 : decode cX4_fits 52 = .ok (.sipush 480, 3) := by decide +kernel
theorem dX4_fits_55 : decode cX4_fits 55 = .ok (.idiv, 1) := by decide +kernel
theorem dX4_fits_56 : decode cX4_fits 56 = .ok (.iload 4, 2) := by decide +kernel
theorem dX4_fits_58 : decode cX4_fits 58 = .ok (.if_icmp .gt 46, 3) := by decide +kernel
theorem dX4_fits_61 : decode cX4_fits 61 = .ok (.aload_n 0, 1) := by decide +kernel
theorem dX4_fits_62 : decode cX4_fits 62 = .ok (.getfield 9, 3) := by decide +kernel
theorem dX4_fits_65 : decode cX4_fits 65 = .ok (.iload 5, 2) := by decide +kernel
theorem dX4_fits_67 : decode cX4_fits 67 = .ok (.iaload, 1) := by decide +kernel
theorem dX4_fits_68 : decode cX4_fits 68 = .ok (.sipush 480, 3) := by decide +kernel
theorem dX4_fits_71 : decode cX4_fits 71 = .ok (.idiv, 1) := by decide +kernel
theorem dX4_fits_72 : decode cX4_fits 72 = .ok (.iload_n 2, 1) := by decide +kernel
theorem dX4_fits_73 : decode cX4_fits 73 = .ok (.iadd, 1) := by decide +kernel
theorem dX4_fits_74 : decode cX4_fits 74 = .ok (.iload 4, 2) := by decide +kernel
theorem dX4_fits_76 : decode cX4_fits 76 = .ok (.if_icmp .ge 5, 3) := by decide +kernel
theorem dX4_fits_79 : decode cX4_fits 79 = .ok (.iconst 0, 1) := by decide +kernel
theorem dX4_fits_80 : decode cX4_fits 80 = .ok (.ireturn, 1) := by decide +kernel
theorem dX4_fits_81 : decode cX4_fits 81 = .ok (.aload_n 0, 1) := by decide +kernel
theorem dX4_fits_82 : decode cX4_fits 82 = .ok (.aload_n 0, 1) := by decide +kernel
theorem dX4_fits_83 : decode cX4_fits 83 = .ok (.getfield 9, 3) := by decide +kernel
theorem dX4_fits_86 : decode cX4_fits 86 = .ok (.iload 5, 2) := by decide +kernel
theorem dX4_fits_88 : decode cX4_fits 88 = .ok (.iaload, 1) := by decide +kernel
theorem dX4_fits_89 : decode cX4_fits 89 = .ok (.sipush 480, 3) := by decide +kernel
theorem dX4_fits_92 : decode cX4_fits 92 = .ok (.irem, 1) := by decide +kernel
theorem dX4_fits_93 : decode cX4_fits 93 = .ok (.iload 4, 2) := by decide +kernel
theorem dX4_fits_95 : decode cX4_fits 95 = .ok (.invokevirtual 56, 3) := by decide +kernel
theorem dX4_fits_98 : decode cX4_fits 98 = .ok (.iinc 5 1, 3) := by decide +kernel
theorem dX4_fits_101 : decode cX4_fits 101 = .ok (.goto (-83), 3) := by decide +kernel
theorem dX4_fits_104 : decode cX4_fits 104 = .ok (.aload_n 0, 1) := by decide +kernel
theorem dX4_fits_105 : decode cX4_fits 105 = .ok (.getfield 18, 3) := by decide +kernel
theorem dX4_fits_108 : decode cX4_fits 108 = .ok (.iload 4, 2) := by decide +kernel
theorem dX4_fits_110 : decode cX4_fits 110 = .ok (.iload 5, 2) := by decide +kernel
theorem dX4_fits_112 : decode cX4_fits 112 = .ok (.iload_n 3, 1) := by decide +kernel
theorem dX4_fits_113 : decode cX4_fits 113 = .ok (.isub, 1) := by decide +kernel
theorem dX4_fits_114 : decode cX4_fits 114 = .ok (.iastore, 1) := by decide +kernel
theorem dX4_fits_115 : decode cX4_fits 115 = .ok (.iload 5, 2) := by decide +kernel
theorem dX4_fits_117 : decode cX4_fits 117 = .ok (.istore_n 3, 1) := by decide +kernel
theorem dX4_fits_118 : decode cX4_fits 118 = .ok (.iinc 4 1, 3) := by decide +kernel
theorem dX4_fits_121 : decode cX4_fits 121 = .ok (.goto (-116), 3) := by decide +kernel
theorem dX4_fits_124 : decode cX4_fits 124 = .ok (.iload_n 3, 1) := by decide +kernel
theorem dX4_fits_125 : decode cX4_fits 125 = .ok (.aload_n 0, 1) := by decide +kernel
theorem dX4_fits_126 : decode cX4_fits 126 = .ok (.getfield 21, 3) := by decide +kernel
theorem dX4_fits_129 : decode cX4_fits 129 = .ok (.if_icmp .ne 7, 3) := by decide +kernel
theorem dX4_fits_132 : decode cX4_fits 132 = .ok (.iconst 1, 1) := by decide +kernel
theorem dX4_fits_133 : decode cX4_fits 133 = .ok (.goto 4, 3) := by decide +kernel
theorem dX4_fits_136 : decode cX4_fits 136 = .ok (.iconst 0, 1) := by decide +kernel
theorem dX4_fits_137 : decode cX4_fits 137 = .ok (.ireturn, 1) := by decide +kernel
theorem dX4_leastGreatest_0 : decode cX4_leastGreatest 0 = .ok (.iconst 0, 1) := by decide +kernel
theorem dX4_leastGreatest_1 : decode cX4_leastGreatest 1 = .ok (.istore_n 2, 1) := by decide +kernel
theorem dX4_leastGreatest_2 : decode cX4_leastGreatest 2 = .ok (.iload_n 2, 1) := by decide +kernel
theorem dX4_leastGreatest_3 : decode cX4_leastGreatest 3 = .ok (.aload_n 0, 1) := by decide +kernel
theorem dX4_leastGreatest_4 : decode cX4_leastGreatest 4 = .ok (.getfield 21, 3) := by decide +kernel
theorem dX4_leastGreatest_7 : decode cX4_leastGreatest 7 = .ok (.if_icmp .ge 20, 3) := by decide +kernel
theorem dX4_leastGreatest_10 : decode cX4_leastGreatest 10 = .ok (.aload_n 0, 1) := by decide +kernel
theorem dX4_leastGreatest_11 : decode cX4_leastGreatest 11 = .ok (.iload_n 2, 1) := by decide +kernel
theorem dX4_leastGreatest_12 : decode cX4_leastGreatest 12 = .ok (.iload_n 1, 1) := by decide +kernel
theorem dX4_leastGreatest_13 : decode cX4_leastGreatest 13 = .ok (.invokevirtual 52, 3) := by decide +kernel
theorem dX4_leastGreatest_16 : decode cX4_leastGreatest 16 = .ok (.ifCond .eq 5, 3) := by decide +kernel
theorem dX4_leastGreatest_19 : decode cX4_leastGreatest 19 = .ok (.iload_n 2, 1) := by decide +kernel
theorem dX4_leastGreatest_20 : decode cX4_leastGreatest 20 = .ok (.ireturn, 1) := by decide +kernel
theorem dX4_leastGreatest_21 : decode cX4_leastGreatest 21 = .ok (.iinc 2 1, 3) := by decide +kernel
theorem dX4_leastGreatest_24 : decode cX4_leastGreatest 24 = .ok (.goto (-22), 3) := by decide +kernel
theorem dX4_leastGreatest_27 : decode cX4_leastGreatest 27 = .ok (.aload_n 0, 1) := by decide +kernel
theorem dX4_leastGreatest_28 : decode cX4_leastGreatest 28 = .ok (.aload_n 0, 1) := by decide +kernel
theorem dX4_leastGreatest_29 : decode cX4_leastGreatest 29 = .ok (.getfield 21, 3) := by decide +kernel
theorem dX4_leastGreatest_32 : decode cX4_leastGreatest 32 = .ok (.iload_n 1, 1) := by decide +kernel
theorem dX4_leastGreatest_33 : decode cX4_leastGreatest 33 = .ok (.invokevirtual 52, 3) := by decide +kernel
theorem dX4_leastGreatest_36 : decode cX4_leastGreatest 36 = .ok (.pop, 1) := by decide +kernel
theorem dX4_leastGreatest_37 : decode cX4_leastGreatest 37 = .ok (.aload_n 0, 1) := by decide +kernel
theorem dX4_leastGreatest_38 : decode cX4_leastGreatest 38 = .ok (.getfield 21, 3) := by decide +kernel
theorem dX4_leastGreatest_41 : decode cX4_leastGreatest 41 = .ok (.ireturn, 1) := by decide +kernel
theorem dX4_loadOn_0 : decode cX4_loadOn 0 = .ok (.aload_n 0, 1) := by decide +kernel
theorem dX4_loadOn_1 : decode cX4_loadOn 1 = .ok (.getfield 48, 3) := by decide +kernel
theorem dX4_loadOn_4 : decode cX4_loadOn 4 = .ok (.ifCond .eq 16, 3) := by decide +kernel
theorem dX4_loadOn_7 : decode cX4_loadOn 7 = .ok (.iload_n 1, 1) := by decide +kernel
theorem dX4_loadOn_8 : decode cX4_loadOn 8 = .ok (.ifCond .lt 12, 3) := by decide +kernel
theorem dX4_loadOn_11 : decode cX4_loadOn 11 = .ok (.iload_n 1, 1) := by decide +kernel
theorem dX4_loadOn_12 : decode cX4_loadOn 12 = .ok (.aload_n 0, 1) := by decide +kernel
theorem dX4_loadOn_13 : decode cX4_loadOn 13 = .ok (.getfield 18, 3) := by decide +kernel
theorem dX4_loadOn_16 : decode cX4_loadOn 16 = .ok (.arraylength, 1) := by decide +kernel
theorem dX4_loadOn_17 : decode cX4_loadOn 17 = .ok (.if_icmp .lt 7, 3) := by decide +kernel
theorem dX4_loadOn_20 : decode cX4_loadOn 20 = .ok (.iconst (-1), 1) := by decide +kernel
theorem dX4_loadOn_21 : decode cX4_loadOn 21 = .ok (.goto 9, 3) := by decide +kernel
theorem dX4_loadOn_24 : decode cX4_loadOn 24 = .ok (.aload_n 0, 1) := by decide +kernel
theorem dX4_loadOn_25 : decode cX4_loadOn 25 = .ok (.getfield 18, 3) := by decide +kernel
theorem dX4_loadOn_28 : decode cX4_loadOn 28 = .ok (.iload_n 1, 1) := by decide +kernel
theorem dX4_loadOn_29 : decode cX4_loadOn 29 = .ok (.iaload, 1) := by decide +kernel
theorem dX4_loadOn_30 : decode cX4_loadOn 30 = .ok (.ireturn, 1) := by decide +kernel
theorem dX4_dayOf_0 : decode cX4_dayOf 0 = .ok (.aload_n 0, 1) := by decide +kernel
theorem dX4_dayOf_1 : decode cX4_dayOf 1 = .ok (.getfield 48, 3) := by decide +kernel
theorem dX4_dayOf_4 : decode cX4_dayOf 4 = .ok (.ifCond .eq 16, 3) := by decide +kernel
theorem dX4_dayOf_7 : decode cX4_dayOf 7 = .ok (.iload_n 1, 1) := by decide +kernel
theorem dX4_dayOf_8 : decode cX4_dayOf 8 = .ok (.ifCond .lt 12, 3) := by decide +kernel
theorem dX4_dayOf_11 : decode cX4_dayOf 11 = .ok (.iload_n 1, 1) := by decide +kernel
theorem dX4_dayOf_12 : decode cX4_dayOf 12 = .ok (.aload_n 0, 1) := by decide +kernel
theorem dX4_dayOf_13 : decode cX4_dayOf 13 = .ok (.getfield 15, 3) := by decide +kernel
theorem dX4_dayOf_16 : decode cX4_dayOf 16 = .ok (.arraylength, 1) := by decide +kernel
theorem dX4_dayOf_17 : decode cX4_dayOf 17 = .ok (.if_icmp .lt 7, 3) := by decide +kernel
theorem dX4_dayOf_20 : decode cX4_dayOf 20 = .ok (.iconst (-1), 1) := by decide +kernel
theorem dX4_dayOf_21 : decode cX4_dayOf 21 = .ok (.goto 9, 3) := by decide +kernel
theorem dX4_dayOf_24 : decode cX4_dayOf 24 = .ok (.aload_n 0, 1) := by decide +kernel
theorem dX4_dayOf_25 : decode cX4_dayOf 25 = .ok (.getfield 15, 3) := by decide +kernel
theorem dX4_dayOf_28 : decode cX4_dayOf 28 = .ok (.iload_n 1, 1) := by decide +kernel
theorem dX4_dayOf_29 : decode cX4_dayOf 29 = .ok (.iaload, 1) := by decide +kernel
theorem dX4_dayOf_30 : decode cX4_dayOf 30 = .ok (.ireturn, 1) := by decide +kernel
theorem dX8_init_0 : decode cX8_init 0 = .ok (.aload_n 0, 1) := by decide +kernel
theorem dX8_init_1 : decode cX8_init 1 = .ok (.invokespecial 3, 3) := by decide +kernel
theorem dX8_init_4 : decode cX8_init 4 = .ok (.aload_n 0, 1) := by decide +kernel
theorem dX8_init_5 : decode cX8_init 5 = .ok (.sipush 2500, 3) := by decide +kernel
theorem dX8_init_8 : decode cX8_init 8 = .ok (.putfield 9, 3) := by decide +kernel
theorem dX8_init_11 : decode cX8_init 11 = .ok (.aload_n 0, 1) := by decide +kernel
theorem dX8_init_12 : decode cX8_init 12 = .ok (.iconst (-1), 1) := by decide +kernel
theorem dX8_init_13 : decode cX8_init 13 = .ok (.putfield 15, 3) := by decide +kernel
theorem dX8_init_16 : decode cX8_init 16 = .ok (.return_, 1) := by decide +kernel
theorem dX5_init_0 : decode cX5_init 0 = .ok (.aload_n 0, 1) := by decide +kernel
theorem dX5_init_1 : decode cX5_init 1 = .ok (.invokespecial 3, 3) := by decide +kernel
theorem dX5_init_4 : decode cX5_init 4 = .ok (.aload_n 0, 1) := by decide +kernel
theorem dX5_init_5 : decode cX5_init 5 = .ok (.iload_n 1, 1) := by decide +kernel
theorem dX5_init_6 : decode cX5_init 6 = .ok (.iconst 1, 1) := by decide +kernel
theorem dX5_init_7 : decode cX5_init 7 = .ok (.if_icmp .ge 7, 3) := by decide +kernel
theorem dX5_init_10 : decode cX5_init 10 = .ok (.iconst 1, 1) := by decide +kernel
theorem dX5_init_11 : decode cX5_init 11 = .ok (.goto 4, 3) := by decide +kernel
theorem dX5_init_14 : decode cX5_init 14 = .ok (.iload_n 1, 1) := by decide +kernel
theorem dX5_init_15 : decode cX5_init 15 = .ok (.anewarray 9, 3) := by decide +kernel
theorem dX5_init_18 : decode cX5_init 18 = .ok (.putfield 11, 3) := by decide +kernel
theorem dX5_init_21 : decode cX5_init 21 = .ok (.iconst 0, 1) := by decide +kernel
theorem dX5_init_22 : decode cX5_init 22 = .ok (.istore_n 2, 1) := by decide +kernel
theorem dX5_init_23 : decode cX5_init 23 = .ok (.iload_n 2, 1) := by decide +kernel
theorem dX5_init_24 : decode cX5_init 24 = .ok (.aload_n 0, 1) := by decide +kernel
theorem dX5_init_25 : decode cX5_init 25 = .ok (.getfield 11, 3) := by decide +kernel
theorem dX5_init_28 : decode cX5_init 28 = .ok (.arraylength, 1) := by decide +kernel
theorem dX5_init_29 : decode cX5_init 29 = .ok (.if_icmp .ge 22, 3) := by decide +kernel
theorem dX5_init_32 : decode cX5_init 32 = .ok (.aload_n 0, 1) := by decide +kernel
theorem dX5_init_33 : decode cX5_init 33 = .ok (.getfield 11, 3) := by decide +kernel
theorem dX5_init_36 : decode cX5_init 36 = .ok (.iload_n 2, 1) := by decide +kernel
theorem dX5_init_37 : decode cX5_init 37 = .ok (.new 9, 3) := by decide +kernel
theorem dX5_init_40 : decode cX5_init 40 = .ok (.dup, 1) := by decide +kernel
theorem dX5_init_41 : decode cX5_init 41 = .ok (.invokespecial 17, 3) := by decide +kernel
theorem dX5_init_44 : decode cX5_init 44 = .ok (.aastore, 1) := by decide +kernel
theorem dX5_init_45 : decode cX5_init 45 = .ok (.iinc 2 1, 3) := by decide +kernel
theorem dX5_init_48 : decode cX5_init 48 = .ok (.goto (-25), 3) := by decide +kernel
theorem dX5_init_51 : decode cX5_init 51 = .ok (.return_, 1) := by decide +kernel
theorem dX8_become_0 : decode cX8_become 0 = .ok (.aload_n 0, 1) := by decide +kernel
theorem dX8_become_1 : decode cX8_become 1 = .ok (.aload_n 1, 1) := by decide +kernel
theorem dX8_become_2 : decode cX8_become 2 = .ok (.getfield 23, 3) := by decide +kernel
theorem dX8_become_5 : decode cX8_become 5 = .ok (.putfield 23, 3) := by decide +kernel
theorem dX8_become_8 : decode cX8_become 8 = .ok (.aload_n 0, 1) := by decide +kernel
theorem dX8_become_9 : decode cX8_become 9 = .ok (.aload_n 1, 1) := by decide +kernel
theorem dX8_become_10 : decode cX8_become 10 = .ok (.getfield 9, 3) := by decide +kernel
theorem dX8_become_13 : decode cX8_become 13 = .ok (.putfield 9, 3) := by decide +kernel
theorem dX8_become_16 : decode cX8_become 16 = .ok (.aload_n 0, 1) := by decide +kernel
theorem dX8_become_17 : decode cX8_become 17 = .ok (.aload_n 1, 1) := by decide +kernel
theorem dX8_become_18 : decode cX8_become 18 = .ok (.getfield 26, 3) := by decide +kernel
theorem dX8_become_21 : decode cX8_become 21 = .ok (.putfield 26, 3) := by decide +kernel
theorem dX8_become_24 : decode cX8_become 24 = .ok (.aload_n 0, 1) := by decide +kernel
theorem dX8_become_25 : decode cX8_become 25 = .ok (.aload_n 1, 1) := by decide +kernel
theorem dX8_become_26 : decode cX8_become 26 = .ok (.getfield 15, 3) := by decide +kernel
theorem dX8_become_29 : decode cX8_become 29 = .ok (.putfield 15, 3) := by decide +kernel
theorem dX8_become_32 : decode cX8_become 32 = .ok (.aload_n 0, 1) := by decide +kernel
theorem dX8_become_33 : decode cX8_become 33 = .ok (.aload_n 1, 1) := by decide +kernel
theorem dX8_become_34 : decode cX8_become 34 = .ok (.getfield 29, 3) := by decide +kernel
theorem dX8_become_37 : decode cX8_become 37 = .ok (.putfield 29, 3) := by decide +kernel
theorem dX8_become_40 : decode cX8_become 40 = .ok (.return_, 1) := by decide +kernel
theorem dX5_become_0 : decode cX5_become 0 = .ok (.iconst 0, 1) := by decide +kernel
theorem dX5_become_1 : decode cX5_become 1 = .ok (.istore_n 2, 1) := by decide +kernel
theorem dX5_become_2 : decode cX5_become 2 = .ok (.iload_n 2, 1) := by decide +kernel
theorem dX5_become_3 : decode cX5_become 3 = .ok (.aload_n 0, 1) := by decide +kernel
theorem dX5_become_4 : decode cX5_become 4 = .ok (.getfield 11, 3) := by decide +kernel
theorem dX5_become_7 : decode cX5_become 7 = .ok (.arraylength, 1) := by decide +kernel
theorem dX5_become_8 : decode cX5_become 8 = .ok (.if_icmp .ge 42, 3) := by decide +kernel
theorem dX5_become_11 : decode cX5_become 11 = .ok (.aload_n 1, 1) := by decide +kernel
theorem dX5_become_12 : decode cX5_become 12 = .ok (.iload_n 2, 1) := by decide +kernel
theorem dX5_become_13 : decode cX5_become 13 = .ok (.invokevirtual 18, 3) := by decide +kernel
theorem dX5_become_16 : decode cX5_become 16 = .ok (.astore_n 3, 1) := by decide +kernel
theorem dX5_become_17 : decode cX5_become 17 = .ok (.aload_n 3, 1) := by decide +kernel
theorem dX5_become_18 : decode cX5_become 18 = .ok (.ifnull 26, 3) := by decide +kernel
theorem dX5_become_21 : decode cX5_become 21 = .ok (.aload_n 0, 1) := by decide +kernel
theorem dX5_become_22 : decode cX5_become 22 = .ok (.getfield 11, 3) := by decide +kernel
theorem dX5_become_25 : decode cX5_become 25 = .ok (.iload_n 2, 1) := by decide +kernel
theorem dX5_become_26 : decode cX5_become 26 = .ok (.aaload, 1) := by decide +kernel
theorem dX5_become_27 : decode cX5_become 27 = .ok (.aload_n 3, 1) := by decide +kernel
theorem dX5_become_28 : decode cX5_become 28 = .ok (.invokevirtual 22, 3) := by decide +kernel
theorem dX5_become_31 : decode cX5_become 31 = .ok (.aload_n 0, 1) := by decide +kernel
theorem dX5_become_32 : decode cX5_become 32 = .ok (.getfield 11, 3) := by decide +kernel
theorem dX5_become_35 : decode cX5_become 35 = .ok (.iload_n 2, 1) := by decide +kernel
theorem dX5_become_36 : decode cX5_become 36 = .ok (.aaload, 1) := by decide +kernel
theorem dX5_become_37 : decode cX5_become 37 = .ok (.aload_n 3, 1) := by decide +kernel
theorem dX5_become_38 : decode cX5_become 38 = .ok (.getfield 26, 3) := by decide +kernel
theorem dX5_become_41 : decode cX5_become 41 = .ok (.putfield 26, 3) := by decide +kernel
theorem dX5_become_44 : decode cX5_become 44 = .ok (.iinc 2 1, 3) := by decide +kernel
theorem dX5_become_47 : decode cX5_become 47 = .ok (.goto (-45), 3) := by decide +kernel
theorem dX5_become_50 : decode cX5_become 50 = .ok (.return_, 1) := by decide +kernel
theorem dX8_forget_0 : decode cX8_forget 0 = .ok (.aload_n 0, 1) := by decide +kernel
theorem dX8_forget_1 : decode cX8_forget 1 = .ok (.iconst 0, 1) := by decide +kernel
theorem dX8_forget_2 : decode cX8_forget 2 = .ok (.putfield 23, 3) := by decide +kernel
theorem dX8_forget_5 : decode cX8_forget 5 = .ok (.aload_n 0, 1) := by decide +kernel
theorem dX8_forget_6 : decode cX8_forget 6 = .ok (.sipush 2500, 3) := by decide +kernel
theorem dX8_forget_9 : decode cX8_forget 9 = .ok (.putfield 9, 3) := by decide +kernel
theorem dX8_forget_12 : decode cX8_forget 12 = .ok (.aload_n 0, 1) := by decide +kernel
theorem dX8_forget_13 : decode cX8_forget 13 = .ok (.iconst 0, 1) := by decide +kernel
theorem dX8_forget_14 : decode cX8_forget 14 = .ok (.putfield 26, 3) := by decide +kernel
theorem dX8_forget_17 : decode cX8_forget 17 = .ok (.aload_n 0, 1) := by decide +kernel
theorem dX8_forget_18 : decode cX8_forget 18 = .ok (.iconst (-1), 1) := by decide +kernel
theorem dX8_forget_19 : decode cX8_forget 19 = .ok (.putfield 15, 3) := by decide +kernel
theorem dX8_forget_22 : decode cX8_forget 22 = .ok (.aload_n 0, 1) := by decide +kernel
theorem dX8_forget_23 : decode cX8_forget 23 = .ok (.iconst 0, 1) := by decide +kernel
theorem dX8_forget_24 : decode cX8_forget 24 = .ok (.putfield 29, 3) := by decide +kernel
theorem dX8_forget_27 : decode cX8_forget 27 = .ok (.return_, 1) := by decide +kernel
theorem dX5_forgetAll_0 : decode cX5_forgetAll 0 = .ok (.iconst 0, 1) := by decide +kernel
theorem dX5_forgetAll_1 : decode cX5_forgetAll 1 = .ok (.istore_n 1, 1) := by decide +kernel
theorem dX5_forgetAll_2 : decode cX5_forgetAll 2 = .ok (.iload_n 1, 1) := by decide +kernel
theorem dX5_forgetAll_3 : decode cX5_forgetAll 3 = .ok (.aload_n 0, 1) := by decide +kernel
theorem dX5_forgetAll_4 : decode cX5_forgetAll 4 = .ok (.getfield 11, 3) := by decide +kernel
theorem dX5_forgetAll_7 : decode cX5_forgetAll 7 = .ok (.arraylength, 1) := by decide +kernel
theorem dX5_forgetAll_8 : decode cX5_forgetAll 8 = .ok (.if_icmp .ge 18, 3) := by decide +kernel
theorem dX5_forgetAll_11 : decode cX5_forgetAll 11 = .ok (.aload_n 0, 1) := by decide +kernel
theorem dX5_forgetAll_12 : decode cX5_forgetAll 12 = .ok (.getfield 11, 3) := by decide +kernel
theorem dX5_forgetAll_15 : decode cX5_forgetAll 15 = .ok (.iload_n 1, 1) := by decide +kernel
theorem dX5_forgetAll_16 : decode cX5_forgetAll 16 = .ok (.aaload, 1) := by decide +kernel
theorem dX5_forgetAll_17 : decode cX5_forgetAll 17 = .ok (.invokevirtual 30, 3) := by decide +kernel
theorem dX5_forgetAll_20 : decode cX5_forgetAll 20 = .ok (.iinc 1 1, 3) := by decide +kernel
theorem dX5_forgetAll_23 : decode cX5_forgetAll 23 = .ok (.goto (-21), 3) := by decide +kernel
theorem dX5_forgetAll_26 : decode cX5_forgetAll 26 = .ok (.return_, 1) := by decide +kernel
theorem dX8_forgetToday_0 : decode cX8_forgetToday 0 = .ok (.aload_n 0, 1) := by decide +kernel
theorem dX8_forgetToday_1 : decode cX8_forgetToday 1 = .ok (.iconst 0, 1) := by decide +kernel
theorem dX8_forgetToday_2 : decode cX8_forgetToday 2 = .ok (.putfield 32, 3) := by decide +kernel
theorem dX8_forgetToday_5 : decode cX8_forgetToday 5 = .ok (.aload_n 0, 1) := by decide +kernel
theorem dX8_forgetToday_6 : decode cX8_forgetToday 6 = .ok (.iconst 0, 1) := by decide +kernel
theorem dX8_forgetToday_7 : decode cX8_forgetToday 7 = .ok (.putfield 36, 3) := by decide +kernel
theorem dX8_forgetToday_10 : decode cX8_forgetToday 10 = .ok (.return_, 1) := by decide +kernel
theorem dX5_forgetToday_0 : decode cX5_forgetToday 0 = .ok (.iconst 0, 1) := by decide +kernel
theorem dX5_forgetToday_1 : decode cX5_forgetToday 1 = .ok (.istore_n 1, 1) := by decide +kernel
theorem dX5_forgetToday_2 : decode cX5_forgetToday 2 = .ok (.iload_n 1, 1) := by decide +kernel
theorem dX5_forgetToday_3 : decode cX5_forgetToday 3 = .ok (.aload_n 0, 1) := by decide +kernel
theorem dX5_forgetToday_4 : decode cX5_forgetToday 4 = .ok (.getfield 11, 3) := by decide +kernel
theorem dX5_forgetToday_7 : decode cX5_forgetToday 7 = .ok (.arraylength, 1) := by decide +kernel
theorem dX5_forgetToday_8 : decode cX5_forgetToday 8 = .ok (.if_icmp .ge 18, 3) := by decide +kernel
theorem dX5_forgetToday_11 : decode cX5_forgetToday 11 = .ok (.aload_n 0, 1) := by decide +kernel
theorem dX5_forgetToday_12 : decode cX5_forgetToday 12 = .ok (.getfield 11, 3) := by decide +kernel
theorem dX5_forgetToday_15 : decode cX5_forgetToday 15 = .ok (.iload_n 1, 1) := by decide +kernel
theorem dX5_forgetToday_16 : decode cX5_forgetToday 16 = .ok (.aaload, 1) := by decide +kernel
theorem dX5_forgetToday_17 : decode cX5_forgetToday 17 = .ok (.invokevirtual 33, 3) := by decide +kernel
theorem dX5_forgetToday_20 : decode cX5_forgetToday 20 = .ok (.iinc 1 1, 3) := by decide +kernel
theorem dX5_forgetToday_23 : decode cX5_forgetToday 23 = .ok (.goto (-21), 3) := by decide +kernel
theorem dX5_forgetToday_26 : decode cX5_forgetToday 26 = .ok (.return_, 1) := by decide +kernel
theorem dX8_isLike_0 : decode cX8_isLike 0 = .ok (.aload_n 0, 1) := by decide +kernel
theorem dX8_isLike_1 : decode cX8_isLike 1 = .ok (.getfield 23, 3) := by decide +kernel
theorem dX8_isLike_4 : decode cX8_isLike 4 = .ok (.aload_n 1, 1) := by decide +kernel
theorem dX8_isLike_5 : decode cX8_isLike 5 = .ok (.getfield 23, 3) := by decide +kernel
theorem dX8_isLike_8 : decode cX8_isLike 8 = .ok (.if_icmp .ne 51, 3) := by decide +kernel
theorem dX8_isLike_11 : decode cX8_isLike 11 = .ok (.aload_n 0, 1) := by decide +kernel
theorem dX8_isLike_12 : decode cX8_isLike 12 = .ok (.getfield 9, 3) := by decide +kernel
theorem dX8_isLike_15 : decode cX8_isLike 15 = .ok (.aload_n 1, 1) := by decide +kernel
theorem dX8_isLike_16 : decode cX8_isLike 16 = .ok (.getfield 9, 3) := by decide +kernel
theorem dX8_isLike_19 : decode cX8_isLike 19 = .ok (.if_icmp .ne 40, 3) := by decide +kernel
theorem dX8_isLike_22 : decode cX8_isLike 22 = .ok (.aload_n 0, 1) := by decide +kernel
theorem dX8_isLike_23 : decode cX8_isLike 23 = .ok (.getfield 26, 3) := by decide +kernel
theorem dX8_isLike_26 : decode cX8_isLike 26 = .ok (.aload_n 1, 1) := by decide +kernel
theorem dX8_isLike_27 : decode cX8_isLike 27 = .ok (.getfield 26, 3) := by decide +kernel
theorem dX8_isLike_30 : decode cX8_isLike 30 = .ok (.if_icmp .ne 29, 3) := by decide +kernel
theorem dX8_isLike_33 : decode cX8_isLike 33 = .ok (.aload_n 0, 1) := by decide +kernel
theorem dX8_isLike_34 : decode cX8_isLike 34 = .ok (.getfield 15, 3) := by decide +kernel
theorem dX8_isLike_37 : decode cX8_isLike 37 = .ok (.aload_n 1, 1) := by decide +kernel
theorem dX8_isLike_38 : decode cX8_isLike 38 = .ok (.getfield 15, 3) := by decide +kernel
theorem dX8_isLike_41 : decode cX8_isLike 41 = .ok (.if_icmp .ne 18, 3) := by decide +kernel
theorem dX8_isLike_44 : decode cX8_isLike 44 = .ok (.aload_n 0, 1) := by decide +kernel
theorem dX8_isLike_45 : decode cX8_isLike 45 = .ok (.getfield 29, 3) := by decide +kernel
theorem dX8_isLike_48 : decode cX8_isLike 48 = .ok (.aload_n 1, 1) := by decide +kernel
theorem dX8_isLike_49 : decode cX8_isLike 49 = .ok (.getfield 29, 3) := by decide +kernel
theorem dX8_isLike_52 : decode cX8_isLike 52 = .ok (.if_icmp .ne 7, 3) := by decide +kernel
theorem dX8_isLike_55 : decode cX8_isLike 55 = .ok (.iconst 1, 1) := by decide +kernel
theorem dX8_isLike_56 : decode cX8_isLike 56 = .ok (.goto 4, 3) := by decide +kernel
theorem dX8_isLike_59 : decode cX8_isLike 59 = .ok (.iconst 0, 1) := by decide +kernel
theorem dX8_isLike_60 : decode cX8_isLike 60 = .ok (.ireturn, 1) := by decide +kernel
theorem dX5_isLike_0 : decode cX5_isLike 0 = .ok (.iconst 0, 1) := by decide +kernel
theorem dX5_isLike_1 : decode cX5_isLike 1 = .ok (.istore_n 2, 1) := by decide +kernel
theorem dX5_isLike_2 : decode cX5_isLike 2 = .ok (.iload_n 2, 1) := by decide +kernel
theorem dX5_isLike_3 : decode cX5_isLike 3 = .ok (.aload_n 0, 1) := by decide +kernel
theorem dX5_isLike_4 : decode cX5_isLike 4 = .ok (.getfield 11, 3) := by decide +kernel
theorem dX5_isLike_7 : decode cX5_isLike 7 = .ok (.arraylength, 1) := by decide +kernel
theorem dX5_isLike_8 : decode cX5_isLike 8 = .ok (.if_icmp .ge 34, 3) := by decide +kernel
theorem dX5_isLike_11 : decode cX5_isLike 11 = .ok (.aload_n 1, 1) := by decide +kernel
theorem dX5_isLike_12 : decode cX5_isLike 12 = .ok (.iload_n 2, 1) := by decide +kernel
theorem dX5_isLike_13 : decode cX5_isLike 13 = .ok (.invokevirtual 18, 3) := by decide +kernel
theorem dX5_isLike_16 : decode cX5_isLike 16 = .ok (.astore_n 3, 1) := by decide +kernel
theorem dX5_isLike_17 : decode cX5_isLike 17 = .ok (.aload_n 3, 1) := by decide +kernel
theorem dX5_isLike_18 : decode cX5_isLike 18 = .ok (.ifnull 16, 3) := by decide +kernel
theorem dX5_isLike_21 : decode cX5_isLike 21 = .ok (.aload_n 0, 1) := by decide +kernel
theorem dX5_isLike_22 : decode cX5_isLike 22 = .ok (.getfield 11, 3) := by decide +kernel
theorem dX5_isLike_25 : decode cX5_isLike 25 = .ok (.iload_n 2, 1) := by decide +kernel
theorem dX5_isLike_26 : decode cX5_isLike 26 = .ok (.aaload, 1) := by decide +kernel
theorem dX5_isLike_27 : decode cX5_isLike 27 = .ok (.aload_n 3, 1) := by decide +kernel
theorem dX5_isLike_28 : decode cX5_isLike 28 = .ok (.invokevirtual 36, 3) := by decide +kernel
theorem dX5_isLike_31 : decode cX5_isLike 31 = .ok (.ifCond .ne 5, 3) := by decide +kernel
theorem dX5_isLike_34 : decode cX5_isLike 34 = .ok (.iconst 0, 1) := by decide +kernel
theorem dX5_isLike_35 : decode cX5_isLike 35 = .ok (.ireturn, 1) := by decide +kernel
theorem dX5_isLike_36 : decode cX5_isLike 36 = .ok (.iinc 2 1, 3) := by decide +kernel
theorem dX5_isLike_39 : decode cX5_isLike 39 = .ok (.goto (-37), 3) := by decide +kernel
theorem dX5_isLike_42 : decode cX5_isLike 42 = .ok (.iconst 1, 1) := by decide +kernel
theorem dX5_isLike_43 : decode cX5_isLike 43 = .ok (.ireturn, 1) := by decide +kernel
theorem dX8_chanceOn_0 : decode cX8_chanceOn 0 = .ok (.aload_n 0, 1) := by decide +kernel
theorem dX8_chanceOn_1 : decode cX8_chanceOn 1 = .ok (.getfield 23, 3) := by decide +kernel
theorem dX8_chanceOn_4 : decode cX8_chanceOn 4 = .ok (.ifCond .le 25, 3) := by decide +kernel
theorem dX8_chanceOn_7 : decode cX8_chanceOn 7 = .ok (.aload_n 2, 1) := by decide +kernel
theorem dX8_chanceOn_8 : decode cX8_chanceOn 8 = .ok (.sipush 16000, 3) := by decide +kernel
theorem dX8_chanceOn_11 : decode cX8_chanceOn 11 = .ok (.iload_n 1, 1) := by decide +kernel
theorem dX8_chanceOn_12 : decode cX8_chanceOn 12 = .ok (.aload_n 0, 1) := by decide +kernel
theorem dX8_chanceOn_13 : decode cX8_chanceOn 13 = .ok (.getfield 15, 3) := by decide +kernel
theorem dX8_chanceOn_16 : decode cX8_chanceOn 16 = .ok (.isub, 1) := by decide +kernel
theorem dX8_chanceOn_17 : decode cX8_chanceOn 17 = .ok (.imul, 1) := by decide +kernel
theorem dX8_chanceOn_18 : decode cX8_chanceOn 18 = .ok (.aload_n 0, 1) := by decide +kernel
theorem dX8_chanceOn_19 : decode cX8_chanceOn 19 = .ok (.getfield 23, 3) := by decide +kernel
theorem dX8_chanceOn_22 : decode cX8_chanceOn 22 = .ok (.idiv, 1) := by decide +kernel
theorem dX8_chanceOn_23 : decode cX8_chanceOn 23 = .ok (.invokevirtual 39, 3) := by decide +kernel
theorem dX8_chanceOn_26 : decode cX8_chanceOn 26 = .ok (.goto 4, 3) := by decide +kernel
theorem dX8_chanceOn_29 : decode cX8_chanceOn 29 = .ok (.iconst 0, 1) := by decide +kernel
theorem dX8_chanceOn_30 : decode cX8_chanceOn 30 = .ok (.ireturn, 1) := by decide +kernel
theorem dX8_isKnown_0 : decode cX8_isKnown 0 = .ok (.aload_n 0, 1) := by decide +kernel
theorem dX8_isKnown_1 : decode cX8_isKnown 1 = .ok (.invokevirtual 45, 3) := by decide +kernel
theorem dX8_isKnown_4 : decode cX8_isKnown 4 = .ok (.ifCond .eq 19, 3) := by decide +kernel
theorem dX8_isKnown_7 : decode cX8_isKnown 7 = .ok (.aload_n 0, 1) := by decide +kernel
theorem dX8_isKnown_8 : decode cX8_isKnown 8 = .ok (.iload_n 1, 1) := by decide +kernel
theorem dX8_isKnown_9 : decode cX8_isKnown 9 = .ok (.aload_n 2, 1) := by decide +kernel
theorem dX8_isKnown_10 : decode cX8_isKnown 10 = .ok (.invokevirtual 49, 3) := by decide +kernel
theorem dX8_isKnown_13 : decode cX8_isKnown 13 = .ok (.sipush 900, 3) := by decide +kernel
theorem dX8_isKnown_16 : decode cX8_isKnown 16 = .ok (.if_icmp .lt 7, 3) := by decide +kernel
theorem dX8_isKnown_19 : decode cX8_isKnown 19 = .ok (.iconst 1, 1) := by decide +kernel
theorem dX8_isKnown_20 : decode cX8_isKnown 20 = .ok (.goto 4, 3) := by decide +kernel
theorem dX8_isKnown_23 : decode cX8_isKnown 23 = .ok (.iconst 0, 1) := by decide +kernel
theorem dX8_isKnown_24 : decode cX8_isKnown 24 = .ok (.ireturn, 1) := by decide +kernel
theorem dX5_isKnown_0 : decode cX5_isKnown 0 = .ok (.iconst 0, 1) := by decide +kernel
theorem dX5_isKnown_1 : decode cX5_isKnown 1 = .ok (.istore_n 3, 1) := by decide +kernel
theorem dX5_isKnown_2 : decode cX5_isKnown 2 = .ok (.iload_n 3, 1) := by decide +kernel
theorem dX5_isKnown_3 : decode cX5_isKnown 3 = .ok (.aload_n 0, 1) := by decide +kernel
theorem dX5_isKnown_4 : decode cX5_isKnown 4 = .ok (.getfield 11, 3) := by decide +kernel
theorem dX5_isKnown_7 : decode cX5_isKnown 7 = .ok (.arraylength, 1) := by decide +kernel
theorem dX5_isKnown_8 : decode cX5_isKnown 8 = .ok (.if_icmp .ge 25, 3) := by decide +kernel
theorem dX5_isKnown_11 : decode cX5_isKnown 11 = .ok (.aload_n 0, 1) := by decide +kernel
theorem dX5_isKnown_12 : decode cX5_isKnown 12 = .ok (.getfield 11, 3) := by decide +kernel
theorem dX5_isKnown_15 : decode cX5_isKnown 15 = .ok (.iload_n 3, 1) := by decide +kernel
theorem dX5_isKnown_16 : decode cX5_isKnown 16 = .ok (.aaload, 1) := by decide +kernel
theorem dX5_isKnown_17 : decode cX5_isKnown 17 = .ok (.iload_n 1, 1) := by decide +kernel
theorem dX5_isKnown_18 : decode cX5_isKnown 18 = .ok (.aload_n 2, 1) := by decide +kernel
theorem dX5_isKnown_19 : decode cX5_isKnown 19 = .ok (.invokevirtual 40, 3) := by decide +kernel
theorem dX5_isKnown_22 : decode cX5_isKnown 22 = .ok (.ifCond .ne 5, 3) := by decide +kernel
theorem dX5_isKnown_25 : decode cX5_isKnown 25 = .ok (.iconst 0, 1) := by decide +kernel
theorem dX5_isKnown_26 : decode cX5_isKnown 26 = .ok (.ireturn, 1) := by decide +kernel
theorem dX5_isKnown_27 : decode cX5_isKnown 27 = .ok (.iinc 3 1, 3) := by decide +kernel
theorem dX5_isKnown_30 : decode cX5_isKnown 30 = .ok (.goto (-28), 3) := by decide +kernel
theorem dX5_isKnown_33 : decode cX5_isKnown 33 = .ok (.iconst 1, 1) := by decide +kernel
theorem dX5_isKnown_34 : decode cX5_isKnown 34 = .ok (.ireturn, 1) := by decide +kernel
theorem dX8_isLeech_0 : decode cX8_isLeech 0 = .ok (.aload_n 0, 1) := by decide +kernel
theorem dX8_isLeech_1 : decode cX8_isLeech 1 = .ok (.getfield 29, 3) := by decide +kernel
theorem dX8_isLeech_4 : decode cX8_isLeech 4 = .ok (.bipush 8, 2) := by decide +kernel
theorem dX8_isLeech_6 : decode cX8_isLeech 6 = .ok (.if_icmp .lt 7, 3) := by decide +kernel
theorem dX8_isLeech_9 : decode cX8_isLeech 9 = .ok (.iconst 1, 1) := by decide +kernel
theorem dX8_isLeech_10 : decode cX8_isLeech 10 = .ok (.goto 4, 3) := by decide +kernel
theorem dX8_isLeech_13 : decode cX8_isLeech 13 = .ok (.iconst 0, 1) := by decide +kernel
theorem dX8_isLeech_14 : decode cX8_isLeech 14 = .ok (.ireturn, 1) := by decide +kernel
theorem dX8_isFresh_0 : decode cX8_isFresh 0 = .ok (.aload_n 0, 1) := by decide +kernel
theorem dX8_isFresh_1 : decode cX8_isFresh 1 = .ok (.getfield 23, 3) := by decide +kernel
theorem dX8_isFresh_4 : decode cX8_isFresh 4 = .ok (.ifCond .ne 7, 3) := by decide +kernel
theorem dX8_isFresh_7 : decode cX8_isFresh 7 = .ok (.iconst 1, 1) := by decide +kernel
theorem dX8_isFresh_8 : decode cX8_isFresh 8 = .ok (.goto 4, 3) := by decide +kernel
theorem dX8_isFresh_11 : decode cX8_isFresh 11 = .ok (.iconst 0, 1) := by decide +kernel
theorem dX8_isFresh_12 : decode cX8_isFresh 12 = .ok (.ireturn, 1) := by decide +kernel
theorem dX8_isDue_0 : decode cX8_isDue 0 = .ok (.aload_n 0, 1) := by decide +kernel
theorem dX8_isDue_1 : decode cX8_isDue 1 = .ok (.invokevirtual 45, 3) := by decide +kernel
theorem dX8_isDue_4 : decode cX8_isDue 4 = .ok (.ifCond .eq 19, 3) := by decide +kernel
theorem dX8_isDue_7 : decode cX8_isDue 7 = .ok (.aload_n 0, 1) := by decide +kernel
theorem dX8_isDue_8 : decode cX8_isDue 8 = .ok (.iload_n 1, 1) := by decide +kernel
theorem dX8_isDue_9 : decode cX8_isDue 9 = .ok (.aload_n 2, 1) := by decide +kernel
theorem dX8_isDue_10 : decode cX8_isDue 10 = .ok (.invokevirtual 49, 3) := by decide +kernel
theorem dX8_isDue_13 : decode cX8_isDue 13 = .ok (.sipush 900, 3) := by decide +kernel
theorem dX8_isDue_16 : decode cX8_isDue 16 = .ok (.if_icmp .ge 7, 3) := by decide +kernel
theorem dX8_isDue_19 : decode cX8_isDue 19 = .ok (.iconst 1, 1) := by decide +kernel
theorem dX8_isDue_20 : decode cX8_isDue 20 = .ok (.goto 4, 3) := by decide +kernel
theorem dX8_isDue_23 : decode cX8_isDue 23 = .ok (.iconst 0, 1) := by decide +kernel
theorem dX8_isDue_24 : decode cX8_isDue 24 = .ok (.ireturn, 1) := by decide +kernel
theorem dX8_isOfKind_0 : decode cX8_isOfKind 0 = .ok (.iload_n 1, 1) := by decide +kernel
theorem dX8_isOfKind_1 : decode cX8_isOfKind 1 = .ok (.iconst 1, 1) := by decide +kernel
theorem dX8_isOfKind_2 : decode cX8_isOfKind 2 = .ok (.if_icmp .ne 10, 3) := by decide +kernel
theorem dX8_isOfKind_5 : decode cX8_isOfKind 5 = .ok (.aload_n 0, 1) := by decide +kernel
theorem dX8_isOfKind_6 : decode cX8_isOfKind 6 = .ok (.iload_n 2, 1) := by decide +kernel
theorem dX8_isOfKind_7 : decode cX8_isOfKind 7 = .ok (.aload_n 3, 1) := by decide +kernel
theorem dX8_isOfKind_8 : decode cX8_isOfKind 8 = .ok (.invokevirtual 53, 3) := by decide +kernel
theorem dX8_isOfKind_11 : decode cX8_isOfKind 11 = .ok (.ireturn, 1) := by decide +kernel
theorem dX8_isOfKind_12 : decode cX8_isOfKind 12 = .ok (.iload_n 1, 1) := by decide +kernel
theorem dX8_isOfKind_13 : decode cX8_isOfKind 13 = .ok (.iconst 2, 1) := by decide +kernel
theorem dX8_isOfKind_14 : decode cX8_isOfKind 14 = .ok (.if_icmp .ne 10, 3) := by decide +kernel
theorem dX8_isOfKind_17 : decode cX8_isOfKind 17 = .ok (.aload_n 0, 1) := by decide +kernel
theorem dX8_isOfKind_18 : decode cX8_isOfKind 18 = .ok (.invokevirtual 57, 3) := by decide +kernel
theorem dX8_isOfKind_21 : decode cX8_isOfKind 21 = .ok (.goto 7, 3) := by decide +kernel
theorem dX8_isOfKind_24 : decode cX8_isOfKind 24 = .ok (.aload_n 0, 1) := by decide +kernel
theorem dX8_isOfKind_25 : decode cX8_isOfKind 25 = .ok (.invokevirtual 60, 3) := by decide +kernel
theorem dX8_isOfKind_28 : decode cX8_isOfKind 28 = .ok (.ireturn, 1) := by decide +kernel
theorem dX5_countSides_0 : decode cX5_countSides 0 = .ok (.iconst 0, 1) := by decide +kernel
theorem dX5_countSides_1 : decode cX5_countSides 1 = .ok (.istore 4, 2) := by decide +kernel
theorem dX5_countSides_3 : decode cX5_countSides 3 = .ok (.iconst 0, 1) := by decide +kernel
theorem dX5_countSides_4 : decode cX5_countSides 4 = .ok (.istore 5, 2) := by decide +kernel
theorem dX5_countSides_6 : decode cX5_countSides 6 = .ok (.iload 5, 2) := by decide +kernel
theorem dX5_countSides_8 : decode cX5_countSides 8 = .ok (.aload_n 0, 1) := by decide +kernel
theorem dX5_countSides_9 : decode cX5_countSides 9 = .ok (.getfield 11, 3) := by decide +kernel
theorem dX5_countSides_12 : decode cX5_countSides 12 = .ok (.arraylength, 1) := by decide +kernel
theorem dX5_countSides_13 : decode cX5_countSides 13 = .ok (.if_icmp .ge 28, 3) := by decide +kernel
theorem dX5_countSides_16 : decode cX5_countSides 16 = .ok (.aload_n 0, 1) := by decide +kernel
theorem dX5_countSides_17 : decode cX5_countSides 17 = .ok (.getfield 11, 3) := by decide +kernel
theorem dX5_countSides_20 : decode cX5_countSides 20 = .ok (.iload 5, 2) := by decide +kernel
theorem dX5_countSides_22 : decode cX5_countSides 22 = .ok (.aaload, 1) := by decide +kernel
theorem dX5_countSides_23 : decode cX5_countSides 23 = .ok (.iload_n 1, 1) := by decide +kernel
theorem dX5_countSides_24 : decode cX5_countSides 24 = .ok (.iload_n 2, 1) := by decide +kernel
theorem dX5_countSides_25 : decode cX5_countSides 25 = .ok (.aload_n 3, 1) := by decide +kernel
theorem dX5_countSides_26 : decode cX5_countSides 26 = .ok (.invokevirtual 44, 3) := by decide +kernel
theorem dX5_countSides_29 : decode cX5_countSides 29 = .ok (.ifCond .eq 6, 3) := by decide +kernel
theorem dX5_countSides_32 : decode cX5_countSides 32 = .ok (.iinc 4 1, 3) := by decide +kernel
theorem dX5_countSides_35 : decode cX5_countSides 35 = .ok (.iinc 5 1, 3) := by decide +kernel
theorem dX5_countSides_38 : decode cX5_countSides 38 = .ok (.goto (-32), 3) := by decide +kernel
theorem dX5_countSides_41 : decode cX5_countSides 41 = .ok (.iload 4, 2) := by decide +kernel
theorem dX5_countSides_43 : decode cX5_countSides 43 = .ok (.ireturn, 1) := by decide +kernel
theorem dX5_mostUrgent_0 : decode cX5_mostUrgent 0 = .ok (.iconst (-1), 1) := by decide +kernel
theorem dX5_mostUrgent_1 : decode cX5_mostUrgent 1 = .ok (.istore_n 3, 1) := by decide +kernel
theorem dX5_mostUrgent_2 : decode cX5_mostUrgent 2 = .ok (.sipush 1000, 3) := by decide +kernel
theorem dX5_mostUrgent_5 : decode cX5_mostUrgent 5 = .ok (.istore 4, 2) := by decide +kernel
theorem dX5_mostUrgent_7 : decode cX5_mostUrgent 7 = .ok (.iconst 0, 1) := by decide +kernel
theorem dX5_mostUrgent_8 : decode cX5_mostUrgent 8 = .ok (.istore 5, 2) := by decide +kernel
theorem dX5_mostUrgent_10 : decode cX5_mostUrgent 10 = .ok (.iload 5, 2) := by decide +kernel
theorem dX5_mostUrgent_12 : decode cX5_mostUrgent 12 = .ok (.aload_n 0, 1) := by decide +kernel
theorem dX5_mostUrgent_13 : decode cX5_mostUrgent 13 = .ok (.getfield 11, 3) := by decide +kernel
theorem dX5_mostUrgent_16 : decode cX5_mostUrgent 16 = .ok (.arraylength, 1) := by decide +kernel
theorem dX5_mostUrgent_17 : decode cX5_mostUrgent 17 = .ok (.if_icmp .ge 59, 3) := by decide +kernel
theorem dX5_mostUrgent_20 : decode cX5_mostUrgent 20 = .ok (.aload_n 0, 1) := by decide +kernel
theorem dX5_mostUrgent_21 : decode cX5_mostUrgent 21 = .ok (.getfield 11, 3) := by decide +kernel
theorem dX5_mostUrgent_24 : decode cX5_mostUrgent 24 = .ok (.iload 5, 2) := by decide +kernel
theorem dX5_mostUrgent_26 : decode cX5_mostUrgent 26 = .ok (.aaload, 1) := by decide +kernel
theorem dX5_mostUrgent_27 : decode cX5_mostUrgent 27 = .ok (.astore 6, 2) := by decide +kernel
theorem dX5_mostUrgent_29 : decode cX5_mostUrgent 29 = .ok (.aload 6, 2) := by decide +kernel
theorem dX5_mostUrgent_31 : decode cX5_mostUrgent 31 = .ok (.getfield 26, 3) := by decide +kernel
theorem dX5_mostUrgent_34 : decode cX5_mostUrgent 34 = .ok (.ifCond .ne 36, 3) := by decide +kernel
theorem dX5_mostUrgent_37 : decode cX5_mostUrgent 37 = .ok (.aload 6, 2) := by decide +kernel
theorem dX5_mostUrgent_39 : decode cX5_mostUrgent 39 = .ok (.iload_n 1, 1) := by decide +kernel
theorem dX5_mostUrgent_40 : decode cX5_mostUrgent 40 = .ok (.aload_n 2, 1) := by decide +kernel
theorem dX5_mostUrgent_41 : decode cX5_mostUrgent 41 = .ok (.invokevirtual 48, 3) := by decide +kernel
theorem dX5_mostUrgent_44 : decode cX5_mostUrgent 44 = .ok (.ifCond .eq 26, 3) := by decide +kernel
theorem dX5_mostUrgent_47 : decode cX5_mostUrgent 47 = .ok (.aload 6, 2) := by decide +kernel
theorem dX5_mostUrgent_49 : decode cX5_mostUrgent 49 = .ok (.iload_n 1, 1) := by decide +kernel
theorem dX5_mostUrgent_50 : decode cX5_mostUrgent 50 = .ok (.aload_n 2, 1) := by decide +kernel
theorem dX5_mostUrgent_51 : decode cX5_mostUrgent 51 = .ok (.invokevirtual 51, 3) := by decide +kernel
theorem dX5_mostUrgent_54 : decode cX5_mostUrgent 54 = .ok (.istore 7, 2) := by decide +kernel
theorem dX5_mostUrgent_56 : decode cX5_mostUrgent 56 = .ok (.iload 7, 2) := by decide +kernel
theorem dX5_mostUrgent_58 : decode cX5_mostUrgent 58 = .ok (.iload 4, 2) := by decide +kernel
theorem dX5_mostUrgent_60 : decode cX5_mostUrgent 60 = .ok (.if_icmp .ge 10, 3) := by decide +kernel
theorem dX5_mostUrgent_63 : decode cX5_mostUrgent 63 = .ok (.iload 7, 2) := by decide +kernel
theorem dX5_mostUrgent_65 : decode cX5_mostUrgent 65 = .ok (.istore 4, 2) := by decide +kernel
theorem dX5_mostUrgent_67 : decode cX5_mostUrgent 67 = .ok (.iload 5, 2) := by decide +kernel
theorem dX5_mostUrgent_69 : decode cX5_mostUrgent 69 = .ok (.istore_n 3, 1) := by decide +kernel
theorem dX5_mostUrgent_70 : decode cX5_mostUrgent 70 = .ok (.iinc 5 1, 3) := by decide +kernel
theorem dX5_mostUrgent_73 : decode cX5_mostUrgent 73 = .ok (.goto (-63), 3) := by decide +kernel
theorem dX5_mostUrgent_76 : decode cX5_mostUrgent 76 = .ok (.iload_n 3, 1) := by decide +kernel
theorem dX5_mostUrgent_77 : decode cX5_mostUrgent 77 = .ok (.ireturn, 1) := by decide +kernel
theorem dX5_firstFresh_0 : decode cX5_firstFresh 0 = .ok (.iconst 0, 1) := by decide +kernel
theorem dX5_firstFresh_1 : decode cX5_firstFresh 1 = .ok (.istore_n 1, 1) := by decide +kernel
theorem dX5_firstFresh_2 : decode cX5_firstFresh 2 = .ok (.iload_n 1, 1) := by decide +kernel
theorem dX5_firstFresh_3 : decode cX5_firstFresh 3 = .ok (.aload_n 0, 1) := by decide +kernel
theorem dX5_firstFresh_4 : decode cX5_firstFresh 4 = .ok (.getfield 11, 3) := by decide +kernel
theorem dX5_firstFresh_7 : decode cX5_firstFresh 7 = .ok (.arraylength, 1) := by decide +kernel
theorem dX5_firstFresh_8 : decode cX5_firstFresh 8 = .ok (.if_icmp .ge 35, 3) := by decide +kernel
theorem dX5_firstFresh_11 : decode cX5_firstFresh 11 = .ok (.aload_n 0, 1) := by decide +kernel
theorem dX5_firstFresh_12 : decode cX5_firstFresh 12 = .ok (.getfield 11, 3) := by decide +kernel
theorem dX5_firstFresh_15 : decode cX5_firstFresh 15 = .ok (.iload_n 1, 1) := by decide +kernel
theorem dX5_firstFresh_16 : decode cX5_firstFresh 16 = .ok (.aaload, 1) := by decide +kernel
theorem dX5_firstFresh_17 : decode cX5_firstFresh 17 = .ok (.invokevirtual 55, 3) := by decide +kernel
theorem dX5_firstFresh_20 : decode cX5_firstFresh 20 = .ok (.ifCond .eq 17, 3) := by decide +kernel
theorem dX5_firstFresh_23 : decode cX5_firstFresh 23 = .ok (.aload_n 0, 1) := by decide +kernel
theorem dX5_firstFresh_24 : decode cX5_firstFresh 24 = .ok (.getfield 11, 3) := by decide +kernel
theorem dX5_firstFresh_27 : decode cX5_firstFresh 27 = .ok (.iload_n 1, 1) := by decide +kernel
theorem dX5_firstFresh_28 : decode cX5_firstFresh 28 = .ok (.aaload, 1) := by decide +kernel
theorem dX5_firstFresh_29 : decode cX5_firstFresh 29 = .ok (.getfield 26, 3) := by decide +kernel
theorem dX5_firstFresh_32 : decode cX5_firstFresh 32 = .ok (.ifCond .ne 5, 3) := by decide +kernel
theorem dX5_firstFresh_35 : decode cX5_firstFresh 35 = .ok (.iload_n 1, 1) := by decide +kernel
theorem dX5_firstFresh_36 : decode cX5_firstFresh 36 = .ok (.ireturn, 1) := by decide +kernel
theorem dX5_firstFresh_37 : decode cX5_firstFresh 37 = .ok (.iinc 1 1, 3) := by decide +kernel
theorem dX5_firstFresh_40 : decode cX5_firstFresh 40 = .ok (.goto (-38), 3) := by decide +kernel
theorem dX5_firstFresh_43 : decode cX5_firstFresh 43 = .ok (.iconst (-1), 1) := by decide +kernel
theorem dX5_firstFresh_44 : decode cX5_firstFresh 44 = .ok (.ireturn, 1) := by decide +kernel
theorem dX6_init_0 : decode cX6_init 0 = .ok (.aload_n 0, 1) := by decide +kernel
theorem dX6_init_1 : decode cX6_init 1 = .ok (.invokespecial 3, 3) := by decide +kernel
theorem dX6_init_4 : decode cX6_init 4 = .ok (.aload_n 0, 1) := by decide +kernel
theorem dX6_init_5 : decode cX6_init 5 = .ok (.new 9, 3) := by decide +kernel
theorem dX6_init_8 : decode cX6_init 8 = .ok (.dup, 1) := by decide +kernel
theorem dX6_init_9 : decode cX6_init 9 = .ok (.invokespecial 11, 3) := by decide +kernel
theorem dX6_init_12 : decode cX6_init 12 = .ok (.putfield 12, 3) := by decide +kernel
theorem dX6_init_15 : decode cX6_init 15 = .ok (.aload_n 0, 1) := by decide +kernel
theorem dX6_init_16 : decode cX6_init 16 = .ok (.bipush 120, 2) := by decide +kernel
theorem dX6_init_18 : decode cX6_init 18 = .ok (.newarray .int, 2) := by decide +kernel
theorem dX6_init_20 : decode cX6_init 20 = .ok (.putfield 18, 3) := by decide +kernel
theorem dX6_init_23 : decode cX6_init 23 = .ok (.return_, 1) := by decide +kernel
theorem dX6_addCard_0 : decode cX6_addCard 0 = .ok (.aload_n 0, 1) := by decide +kernel
theorem dX6_addCard_1 : decode cX6_addCard 1 = .ok (.getfield 12, 3) := by decide +kernel
theorem dX6_addCard_4 : decode cX6_addCard 4 = .ok (.new 22, 3) := by decide +kernel
theorem dX6_addCard_7 : decode cX6_addCard 7 = .ok (.dup, 1) := by decide +kernel
theorem dX6_addCard_8 : decode cX6_addCard 8 = .ok (.iload_n 1, 1) := by decide +kernel
theorem dX6_addCard_9 : decode cX6_addCard 9 = .ok (.invokespecial 24, 3) := by decide +kernel
theorem dX6_addCard_12 : decode cX6_addCard 12 = .ok (.invokevirtual 27, 3) := by decide +kernel
theorem dX6_addCard_15 : decode cX6_addCard 15 = .ok (.pop, 1) := by decide +kernel
theorem dX6_addCard_16 : decode cX6_addCard 16 = .ok (.return_, 1) := by decide +kernel
theorem dX6_memoryOf_0 : decode cX6_memoryOf 0 = .ok (.aload_n 0, 1) := by decide +kernel
theorem dX6_memoryOf_1 : decode cX6_memoryOf 1 = .ok (.iload_n 1, 1) := by decide +kernel
theorem dX6_memoryOf_2 : decode cX6_memoryOf 2 = .ok (.invokevirtual 39, 3) := by decide +kernel
theorem dX6_memoryOf_5 : decode cX6_memoryOf 5 = .ok (.astore_n 3, 1) := by decide +kernel
theorem dX6_memoryOf_6 : decode cX6_memoryOf 6 = .ok (.aload_n 3, 1) := by decide +kernel
theorem dX6_memoryOf_7 : decode cX6_memoryOf 7 = .ok (.ifnonnull 7, 3) := by decide +kernel
theorem dX6_memoryOf_10 : decode cX6_memoryOf 10 = .ok (.aconst_null, 1) := by decide +kernel
theorem dX6_memoryOf_11 : decode cX6_memoryOf 11 = .ok (.goto 8, 3) := by decide +kernel
theorem dX6_memoryOf_14 : decode cX6_memoryOf 14 = .ok (.aload_n 3, 1) := by decide +kernel
theorem dX6_memoryOf_15 : decode cX6_memoryOf 15 = .ok (.iload_n 2, 1) := by decide +kernel
theorem dX6_memoryOf_16 : decode cX6_memoryOf 16 = .ok (.invokevirtual 43, 3) := by decide +kernel
theorem dX6_memoryOf_19 : decode cX6_memoryOf 19 = .ok (.areturn, 1) := by decide +kernel
theorem dX6_beginDay_0 : decode cX6_beginDay 0 = .ok (.aload_n 0, 1) := by decide +kernel
theorem dX6_beginDay_1 : decode cX6_beginDay 1 = .ok (.iload_n 1, 1) := by decide +kernel
theorem dX6_beginDay_2 : decode cX6_beginDay 2 = .ok (.putfield 47, 3) := by decide +kernel
theorem dX6_beginDay_5 : decode cX6_beginDay 5 = .ok (.aload_n 0, 1) := by decide +kernel
theorem dX6_beginDay_6 : decode cX6_beginDay 6 = .ok (.iconst 0, 1) := by decide +kernel
theorem dX6_beginDay_7 : decode cX6_beginDay 7 = .ok (.putfield 51, 3) := by decide +kernel
theorem dX6_beginDay_10 : decode cX6_beginDay 10 = .ok (.iconst 0, 1) := by decide +kernel
theorem dX6_beginDay_11 : decode cX6_beginDay 11 = .ok (.istore_n 2, 1) := by decide +kernel
theorem dX6_beginDay_12 : decode cX6_beginDay 12 = .ok (.iload_n 2, 1) := by decide +kernel
theorem dX6_beginDay_13 : decode cX6_beginDay 13 = .ok (.aload_n 0, 1) := by decide +kernel
theorem dX6_beginDay_14 : decode cX6_beginDay 14 = .ok (.getfield 12, 3) := by decide +kernel
theorem dX6_beginDay_17 : decode cX6_beginDay 17 = .ok (.invokevirtual 31, 3) := by decide +kernel
theorem dX6_beginDay_20 : decode cX6_beginDay 20 = .ok (.if_icmp .ge 23, 3) := by decide +kernel
theorem dX6_beginDay_23 : decode cX6_beginDay 23 = .ok (.aload_n 0, 1) := by decide +kernel
theorem dX6_beginDay_24 : decode cX6_beginDay 24 = .ok (.getfield 12, 3) := by decide +kernel
theorem dX6_beginDay_27 : decode cX6_beginDay 27 = .ok (.iload_n 2, 1) := by decide +kernel
theorem dX6_beginDay_28 : decode cX6_beginDay 28 = .ok (.invokevirtual 35, 3) := by decide +kernel
theorem dX6_beginDay_31 : decode cX6_beginDay 31 = .ok (.checkcast 22, 3) := by decide +kernel
theorem dX6_beginDay_34 : decode cX6_beginDay 34 = .ok (.invokevirtual 54, 3) := by decide +kernel
theorem dX6_beginDay_37 : decode cX6_beginDay 37 = .ok (.iinc 2 1, 3) := by decide +kernel
theorem dX6_beginDay_40 : decode cX6_beginDay 40 = .ok (.goto (-28), 3) := by decide +kernel
theorem dX6_beginDay_43 : decode cX6_beginDay 43 = .ok (.return_, 1) := by decide +kernel
theorem dX6_forgetAll_0 : decode cX6_forgetAll 0 = .ok (.iconst 0, 1) := by decide +kernel
theorem dX6_forgetAll_1 : decode cX6_forgetAll 1 = .ok (.istore_n 1, 1) := by decide +kernel
theorem dX6_forgetAll_2 : decode cX6_forgetAll 2 = .ok (.iload_n 1, 1) := by decide +kernel
theorem dX6_forgetAll_3 : decode cX6_forgetAll 3 = .ok (.aload_n 0, 1) := by decide +kernel
theorem dX6_forgetAll_4 : decode cX6_forgetAll 4 = .ok (.getfield 12, 3) := by decide +kernel
theorem dX6_forgetAll_7 : decode cX6_forgetAll 7 = .ok (.invokevirtual 31, 3) := by decide +kernel
theorem dX6_forgetAll_10 : decode cX6_forgetAll 10 = .ok (.if_icmp .ge 23, 3) := by decide +kernel
theorem dX6_forgetAll_13 : decode cX6_forgetAll 13 = .ok (.aload_n 0, 1) := by decide +kernel
theorem dX6_forgetAll_14 : decode cX6_forgetAll 14 = .ok (.getfield 12, 3) := by decide +kernel
theorem dX6_forgetAll_17 : decode cX6_forgetAll 17 = .ok (.iload_n 1, 1) := by decide +kernel
theorem dX6_forgetAll_18 : decode cX6_forgetAll 18 = .ok (.invokevirtual 35, 3) := by decide +kernel
theorem dX6_forgetAll_21 : decode cX6_forgetAll 21 = .ok (.checkcast 22, 3) := by decide +kernel
theorem dX6_forgetAll_24 : decode cX6_forgetAll 24 = .ok (.invokevirtual 57, 3) := by decide +kernel
theorem dX6_forgetAll_27 : decode cX6_forgetAll 27 = .ok (.iinc 1 1, 3) := by decide +kernel
theorem dX6_forgetAll_30 : decode cX6_forgetAll 30 = .ok (.goto (-28), 3) := by decide +kernel
theorem dX6_forgetAll_33 : decode cX6_forgetAll 33 = .ok (.return_, 1) := by decide +kernel
theorem dX6_isLike_0 : decode cX6_isLike 0 = .ok (.iconst 0, 1) := by decide +kernel
theorem dX6_isLike_1 : decode cX6_isLike 1 = .ok (.istore_n 2, 1) := by decide +kernel
theorem dX6_isLike_2 : decode cX6_isLike 2 = .ok (.iload_n 2, 1) := by decide +kernel
theorem dX6_isLike_3 : decode cX6_isLike 3 = .ok (.aload_n 0, 1) := by decide +kernel
theorem dX6_isLike_4 : decode cX6_isLike 4 = .ok (.getfield 12, 3) := by decide +kernel
theorem dX6_isLike_7 : decode cX6_isLike 7 = .ok (.invokevirtual 31, 3) := by decide +kernel
theorem dX6_isLike_10 : decode cX6_isLike 10 = .ok (.if_icmp .ge 39, 3) := by decide +kernel
theorem dX6_isLike_13 : decode cX6_isLike 13 = .ok (.aload_n 1, 1) := by decide +kernel
theorem dX6_isLike_14 : decode cX6_isLike 14 = .ok (.iload_n 2, 1) := by decide +kernel
theorem dX6_isLike_15 : decode cX6_isLike 15 = .ok (.invokevirtual 39, 3) := by decide +kernel
theorem dX6_isLike_18 : decode cX6_isLike 18 = .ok (.astore_n 3, 1) := by decide +kernel
theorem dX6_isLike_19 : decode cX6_isLike 19 = .ok (.aload_n 3, 1) := by decide +kernel
theorem dX6_isLike_20 : decode cX6_isLike 20 = .ok (.ifnull 21, 3) := by decide +kernel
theorem dX6_isLike_23 : decode cX6_isLike 23 = .ok (.aload_n 0, 1) := by decide +kernel
theorem dX6_isLike_24 : decode cX6_isLike 24 = .ok (.getfield 12, 3) := by decide +kernel
theorem dX6_isLike_27 : decode cX6_isLike 27 = .ok (.iload_n 2, 1) := by decide +kernel
theorem dX6_isLike_28 : decode cX6_isLike 28 = .ok (.invokevirtual 35, 3) := by decide +kernel
theorem dX6_isLike_31 : decode cX6_isLike 31 = .ok (.checkcast 22, 3) := by decide +kernel
theorem dX6_isLike_34 : decode cX6_isLike 34 = .ok (.aload_n 3, 1) := by decide +kernel
theorem dX6_isLike_35 : decode cX6_isLike 35 = .ok (.invokevirtual 60, 3) := by decide +kernel
theorem dX6_isLike_38 : decode cX6_isLike 38 = .ok (.ifCond .ne 5, 3) := by decide +kernel
theorem dX6_isLike_41 : decode cX6_isLike 41 = .ok (.iconst 0, 1) := by decide +kernel
theorem dX6_isLike_42 : decode cX6_isLike 42 = .ok (.ireturn, 1) := by decide +kernel
theorem dX6_isLike_43 : decode cX6_isLike 43 = .ok (.iinc 2 1, 3) := by decide +kernel
theorem dX6_isLike_46 : decode cX6_isLike 46 = .ok (.goto (-44), 3) := by decide +kernel
theorem dX6_isLike_49 : decode cX6_isLike 49 = .ok (.iconst 1, 1) := by decide +kernel
theorem dX6_isLike_50 : decode cX6_isLike 50 = .ok (.ireturn, 1) := by decide +kernel
theorem dX6_countKnown_0 : decode cX6_countKnown 0 = .ok (.iconst 0, 1) := by decide +kernel
theorem dX6_countKnown_1 : decode cX6_countKnown 1 = .ok (.istore_n 2, 1) := by decide +kernel
theorem dX6_countKnown_2 : decode cX6_countKnown 2 = .ok (.iconst 0, 1) := by decide +kernel
theorem dX6_countKnown_3 : decode cX6_countKnown 3 = .ok (.istore_n 3, 1) := by decide +kernel
theorem dX6_countKnown_4 : decode cX6_countKnown 4 = .ok (.iload_n 3, 1) := by decide +kernel
theorem dX6_countKnown_5 : decode cX6_countKnown 5 = .ok (.aload_n 0, 1) := by decide +kernel
theorem dX6_countKnown_6 : decode cX6_countKnown 6 = .ok (.getfield 12, 3) := by decide +kernel
theorem dX6_countKnown_9 : decode cX6_countKnown 9 = .ok (.invokevirtual 31, 3) := by decide +kernel
theorem dX6_countKnown_12 : decode cX6_countKnown 12 = .ok (.if_icmp .ge 34, 3) := by decide +kernel
theorem dX6_countKnown_15 : decode cX6_countKnown 15 = .ok (.aload_n 0, 1) := by decide +kernel
theorem dX6_countKnown_16 : decode cX6_countKnown 16 = .ok (.getfield 12, 3) := by decide +kernel
theorem dX6_countKnown_19 : decode cX6_countKnown 19 = .ok (.iload_n 3, 1) := by decide +kernel
theorem dX6_countKnown_20 : decode cX6_countKnown 20 = .ok (.invokevirtual 35, 3) := by decide +kernel
theorem dX6_countKnown_23 : decode cX6_countKnown 23 = .ok (.checkcast 22, 3) := by decide +kernel
theorem dX6_countKnown_26 : decode cX6_countKnown 26 = .ok (.aload_n 0, 1) := by decide +kernel
theorem dX6_countKnown_27 : decode cX6_countKnown 27 = .ok (.getfield 47, 3) := by decide +kernel
theorem dX6_countKnown_30 : decode cX6_countKnown 30 = .ok (.aload_n 1, 1) := by decide +kernel
theorem dX6_countKnown_31 : decode cX6_countKnown 31 = .ok (.invokevirtual 64, 3) := by decide +kernel
theorem dX6_countKnown_34 : decode cX6_countKnown 34 = .ok (.ifCond .eq 6, 3) := by decide +kernel
theorem dX6_countKnown_37 : decode cX6_countKnown 37 = .ok (.iinc 2 1, 3) := by decide +kernel
theorem dX6_countKnown_40 : decode cX6_countKnown 40 = .ok (.iinc 3 1, 3) := by decide +kernel
theorem dX6_countKnown_43 : decode cX6_countKnown 43 = .ok (.goto (-39), 3) := by decide +kernel
theorem dX6_countKnown_46 : decode cX6_countKnown 46 = .ok (.iload_n 2, 1) := by decide +kernel
theorem dX6_countKnown_47 : decode cX6_countKnown 47 = .ok (.ireturn, 1) := by decide +kernel
theorem dX6_countSides_0 : decode cX6_countSides 0 = .ok (.iconst 0, 1) := by decide +kernel
theorem dX6_countSides_1 : decode cX6_countSides 1 = .ok (.istore_n 3, 1) := by decide +kernel
theorem dX6_countSides_2 : decode cX6_countSides 2 = .ok (.iconst 0, 1) := by decide +kernel
theorem dX6_countSides_3 : decode cX6_countSides 3 = .ok (.istore 4, 2) := by decide +kernel
theorem dX6_countSides_5 : decode cX6_countSides 5 = .ok (.iload 4, 2) := by decide +kernel
theorem dX6_countSides_7 : decode cX6_countSides 7 = .ok (.aload_n 0, 1) := by decide +kernel
theorem dX6_countSides_8 : decode cX6_countSides 8 = .ok (.getfield 12, 3) := by decide +kernel
theorem dX6_countSides_11 : decode cX6_countSides 11 = .ok (.invokevirtual 31, 3) := by decide +kernel
theorem dX6_countSides_14 : decode cX6_countSides 14 = .ok (.if_icmp .ge 33, 3) := by decide +kernel
theorem dX6_countSides_17 : decode cX6_countSides 17 = .ok (.iload_n 3, 1) := by decide +kernel
theorem dX6_countSides_18 : decode cX6_countSides 18 = .ok (.aload_n 0, 1) := by decide +kernel
theorem dX6_countSides_19 : decode cX6_countSides 19 = .ok (.getfield 12, 3) := by decide +kernel
theorem dX6_countSides_22 : decode cX6_countSides 22 = .ok (.iload 4, 2) := by decide +kernel
theorem dX6_countSides_24 : decode cX6_countSides 24 = .ok (.invokevirtual 35, 3) := by decide +kernel
theorem dX6_countSides_27 : decode cX6_countSides 27 = .ok (.checkcast 22, 3) := by decide +kernel
theorem dX6_countSides_30 : decode cX6_countSides 30 = .ok (.iload_n 1, 1) := by decide +kernel
theorem dX6_countSides_31 : decode cX6_countSides 31 = .ok (.aload_n 0, 1) := by decide +kernel
theorem dX6_countSides_32 : decode cX6_countSides 32 = .ok (.getfield 47, 3) := by decide +kernel
theorem dX6_countSides_35 : decode cX6_countSides 35 = .ok (.aload_n 2, 1) := by decide +kernel
theorem dX6_countSides_36 : decode cX6_countSides 36 = .ok (.invokevirtual 68, 3) := by decide +kernel
theorem dX6_countSides_39 : decode cX6_countSides 39 = .ok (.iadd, 1) := by decide +kernel
theorem dX6_countSides_40 : decode cX6_countSides 40 = .ok (.istore_n 3, 1) := by decide +kernel
theorem dX6_countSides_41 : decode cX6_countSides 41 = .ok (.iinc 4 1, 3) := by decide +kernel
theorem dX6_countSides_44 : decode cX6_countSides 44 = .ok (.goto (-39), 3) := by decide +kernel
theorem dX6_countSides_47 : decode cX6_countSides 47 = .ok (.iload_n 3, 1) := by decide +kernel
theorem dX6_countSides_48 : decode cX6_countSides 48 = .ok (.ireturn, 1) := by decide +kernel
theorem dX6_first_0 : decode cX6_first 0 = .ok (.aload_n 0, 1) := by decide +kernel
theorem dX6_first_1 : decode cX6_first 1 = .ok (.getfield 51, 3) := by decide +kernel
theorem dX6_first_4 : decode cX6_first 4 = .ok (.ifCond .le 12, 3) := by decide +kernel
theorem dX6_first_7 : decode cX6_first 7 = .ok (.aload_n 0, 1) := by decide +kernel
theorem dX6_first_8 : decode cX6_first 8 = .ok (.getfield 18, 3) := by decide +kernel
theorem dX6_first_11 : decode cX6_first 11 = .ok (.iconst 0, 1) := by decide +kernel
theorem dX6_first_12 : decode cX6_first 12 = .ok (.iaload, 1) := by decide +kernel
theorem dX6_first_13 : decode cX6_first 13 = .ok (.goto 4, 3) := by decide +kernel
theorem dX6_first_16 : decode cX6_first 16 = .ok (.iconst (-1), 1) := by decide +kernel
theorem dX6_first_17 : decode cX6_first 17 = .ok (.ireturn, 1) := by decide +kernel
theorem dX6_append_0 : decode cX6_append 0 = .ok (.aload_n 0, 1) := by decide +kernel
theorem dX6_append_1 : decode cX6_append 1 = .ok (.getfield 51, 3) := by decide +kernel
theorem dX6_append_4 : decode cX6_append 4 = .ok (.aload_n 0, 1) := by decide +kernel
theorem dX6_append_5 : decode cX6_append 5 = .ok (.getfield 18, 3) := by decide +kernel
theorem dX6_append_8 : decode cX6_append 8 = .ok (.arraylength, 1) := by decide +kernel
theorem dX6_append_9 : decode cX6_append 9 = .ok (.if_icmp .ge 23, 3) := by decide +kernel
theorem dX6_append_12 : decode cX6_append 12 = .ok (.aload_n 0, 1) := by decide +kernel
theorem dX6_append_13 : decode cX6_append 13 = .ok (.getfield 18, 3) := by decide +kernel
theorem dX6_append_16 : decode cX6_append 16 = .ok (.aload_n 0, 1) := by decide +kernel
theorem dX6_append_17 : decode cX6_append 17 = .ok (.getfield 51, 3) := by decide +kernel
theorem dX6_append_20 : decode cX6_append 20 = .ok (.iload_n 1, 1) := by decide +kernel
theorem dX6_append_21 : decode cX6_append 21 = .ok (.iastore, 1) := by decide +kernel
theorem dX6_append_22 : decode cX6_append 22 = .ok (.aload_n 0, 1) := by decide +kernel
theorem dX6_append_23 : decode cX6_append 23 = .ok (.dup, 1) := by decide +kernel
theorem dX6_append_24 : decode cX6_append 24 = .ok (.getfield 51, 3) := by decide +kernel
theorem dX6_append_27 : decode cX6_append 27 = .ok (.iconst 1, 1) := by decide +kernel
theorem dX6_append_28 : decode cX6_append 28 = .ok (.iadd, 1) := by decide +kernel
theorem dX6_append_29 : decode cX6_append 29 = .ok (.putfield 51, 3) := by decide +kernel
theorem dX6_append_32 : decode cX6_append 32 = .ok (.return_, 1) := by decide +kernel
theorem dX6_drop_0 : decode cX6_drop 0 = .ok (.iconst 0, 1) := by decide +kernel
theorem dX6_drop_1 : decode cX6_drop 1 = .ok (.istore_n 2, 1) := by decide +kernel
theorem dX6_drop_2 : decode cX6_drop 2 = .ok (.iconst 0, 1) := by decide +kernel
theorem dX6_drop_3 : decode cX6_drop 3 = .ok (.istore_n 3, 1) := by decide +kernel
theorem dX6_drop_4 : decode cX6_drop 4 = .ok (.iload_n 3, 1) := by decide +kernel
theorem dX6_drop_5 : decode cX6_drop 5 = .ok (.aload_n 0, 1) := by decide +kernel
theorem dX6_drop_6 : decode cX6_drop 6 = .ok (.getfield 51, 3) := by decide +kernel
theorem dX6_drop_9 : decode cX6_drop 9 = .ok (.if_icmp .ge 43, 3) := by decide +kernel
theorem dX6_drop_12 : decode cX6_drop 12 = .ok (.iload_n 3, 1) := by decide +kernel
theorem dX6_drop_13 : decode cX6_drop 13 = .ok (.aload_n 0, 1) := by decide +kernel
theorem dX6_drop_14 : decode cX6_drop 14 = .ok (.getfield 18, 3) := by decide +kernel
theorem dX6_drop_17 : decode cX6_drop 17 = .ok (.arraylength, 1) := by decide +kernel
theorem dX6_drop_18 : decode cX6_drop 18 = .ok (.if_icmp .ge 34, 3) := by decide +kernel
theorem dX6_drop_21 : decode cX6_drop 21 = .ok (.aload_n 0, 1) := by decide +kernel
theorem dX6_drop_22 : decode cX6_drop 22 = .ok (.getfield 18, 3) := by decide +kernel
theorem dX6_drop_25 : decode cX6_drop 25 = .ok (.iload_n 3, 1) := by decide +kernel
theorem dX6_drop_26 : decode cX6_drop 26 = .ok (.iaload, 1) := by decide +kernel
theorem dX6_drop_27 : decode cX6_drop 27 = .ok (.iload_n 1, 1) := by decide +kernel
theorem dX6_drop_28 : decode cX6_drop 28 = .ok (.if_icmp .eq 18, 3) := by decide +kernel
theorem dX6_drop_31 : decode cX6_drop 31 = .ok (.aload_n 0, 1) := by decide +kernel
theorem dX6_drop_32 : decode cX6_drop 32 = .ok (.getfield 18, 3) := by decide +kernel
theorem dX6_drop_35 : decode cX6_drop 35 = .ok (.iload_n 2, 1) := by decide +kernel
theorem dX6_drop_36 : decode cX6_drop 36 = .ok (.aload_n 0, 1) := by decide +kernel
theorem dX6_drop_37 : decode cX6_drop 37 = .ok (.getfield 18, 3) := by decide +kernel
theorem dX6_drop_40 : decode cX6_drop 40 = .ok (.iload_n 3, 1) := by decide +kernel
theorem dX6_drop_41 : decode cX6_drop 41 = .ok (.iaload, 1) := by decide +kernel
theorem dX6_drop_42 : decode cX6_drop 42 = .ok (.iastore, 1) := by decide +kernel
theorem dX6_drop_43 : decode cX6_drop 43 = .ok (.iinc 2 1, 3) := by decide +kernel
theorem dX6_drop_46 : decode cX6_drop 46 = .ok (.iinc 3 1, 3) := by decide +kernel
theorem dX6_drop_49 : decode cX6_drop 49 = .ok (.goto (-45), 3) := by decide +kernel
theorem dX6_drop_52 : decode cX6_drop 52 = .ok (.aload_n 0, 1) := by decide +kernel
theorem dX6_drop_53 : decode cX6_drop 53 = .ok (.iload_n 2, 1) := by decide +kernel
theorem dX6_drop_54 : decode cX6_drop 54 = .ok (.putfield 51, 3) := by decide +kernel
theorem dX6_drop_57 : decode cX6_drop 57 = .ok (.return_, 1) := by decide +kernel
theorem dX6_dropFirst_0 : decode cX6_dropFirst 0 = .ok (.aload_n 0, 1) := by decide +kernel
theorem dX6_dropFirst_1 : decode cX6_dropFirst 1 = .ok (.aload_n 0, 1) := by decide +kernel
theorem dX6_dropFirst_2 : decode cX6_dropFirst 2 = .ok (.invokevirtual 72, 3) := by decide +kernel
theorem dX6_dropFirst_5 : decode cX6_dropFirst 5 = .ok (.invokevirtual 75, 3) := by decide +kernel
theorem dX6_dropFirst_8 : decode cX6_dropFirst 8 = .ok (.return_, 1) := by decide +kernel
theorem dX6_hasCard_0 : decode cX6_hasCard 0 = .ok (.iconst 0, 1) := by decide +kernel
theorem dX6_hasCard_1 : decode cX6_hasCard 1 = .ok (.istore_n 2, 1) := by decide +kernel
theorem dX6_hasCard_2 : decode cX6_hasCard 2 = .ok (.iload_n 2, 1) := by decide +kernel
theorem dX6_hasCard_3 : decode cX6_hasCard 3 = .ok (.aload_n 0, 1) := by decide +kernel
theorem dX6_hasCard_4 : decode cX6_hasCard 4 = .ok (.getfield 51, 3) := by decide +kernel
theorem dX6_hasCard_7 : decode cX6_hasCard 7 = .ok (.if_icmp .ge 32, 3) := by decide +kernel
theorem dX6_hasCard_10 : decode cX6_hasCard 10 = .ok (.iload_n 2, 1) := by decide +kernel
theorem dX6_hasCard_11 : decode cX6_hasCard 11 = .ok (.aload_n 0, 1) := by decide +kernel
theorem dX6_hasCard_12 : decode cX6_hasCard 12 = .ok (.getfield 18, 3) := by decide +kernel
theorem dX6_hasCard_15 : decode cX6_hasCard 15 = .ok (.arraylength, 1) := by decide +kernel
theorem dX6_hasCard_16 : decode cX6_hasCard 16 = .ok (.if_icmp .ge 23, 3) := by decide +kernel
theorem dX6_hasCard_19 : decode cX6_hasCard 19 = .ok (.aload_n 0, 1) := by decide +kernel
theorem dX6_hasCard_20 : decode cX6_hasCard 20 = .ok (.getfield 18, 3) := by decide +kernel
theorem dX6_hasCard_23 : decode cX6_hasCard 23 = .ok (.iload_n 2, 1) := by decide +kernel
theorem dX6_hasCard_24 : decode cX6_hasCard 24 = .ok (.iaload, 1) := by decide +kernel
theorem dX6_hasCard_25 : decode cX6_hasCard 25 = .ok (.iconst 4, 1) := by decide +kernel
theorem dX6_hasCard_26 : decode cX6_hasCard 26 = .ok (.idiv, 1) := by decide +kernel
theorem dX6_hasCard_27 : decode cX6_hasCard 27 = .ok (.iload_n 1, 1) := by decide +kernel
theorem dX6_hasCard_28 : decode cX6_hasCard 28 = .ok (.if_icmp .ne 5, 3) := by decide +kernel
theorem dX6_hasCard_31 : decode cX6_hasCard 31 = .ok (.iconst 1, 1) := by decide +kernel
theorem dX6_hasCard_32 : decode cX6_hasCard 32 = .ok (.ireturn, 1) := by decide +kernel
theorem dX6_hasCard_33 : decode cX6_hasCard 33 = .ok (.iinc 2 1, 3) := by decide +kernel
theorem dX6_hasCard_36 : decode cX6_hasCard 36 = .ok (.goto (-34), 3) := by decide +kernel
theorem dX6_hasCard_39 : decode cX6_hasCard 39 = .ok (.iconst 0, 1) := by decide +kernel
theorem dX6_hasCard_40 : decode cX6_hasCard 40 = .ok (.ireturn, 1) := by decide +kernel
theorem dX9_placeOf_0 : decode cX9_placeOf 0 = .ok (.iconst 4, 1) := by decide +kernel
theorem dX9_placeOf_1 : decode cX9_placeOf 1 = .ok (.iload_n 0, 1) := by decide +kernel
theorem dX9_placeOf_2 : decode cX9_placeOf 2 = .ok (.imul, 1) := by decide +kernel
theorem dX9_placeOf_3 : decode cX9_placeOf 3 = .ok (.iload_n 1, 1) := by decide +kernel
theorem dX9_placeOf_4 : decode cX9_placeOf 4 = .ok (.iadd, 1) := by decide +kernel
theorem dX9_placeOf_5 : decode cX9_placeOf 5 = .ok (.ireturn, 1) := by decide +kernel
theorem dX6_chanceAt_0 : decode cX6_chanceAt 0 = .ok (.aload_n 0, 1) := by decide +kernel
theorem dX6_chanceAt_1 : decode cX6_chanceAt 1 = .ok (.iload_n 1, 1) := by decide +kernel
theorem dX6_chanceAt_2 : decode cX6_chanceAt 2 = .ok (.invokevirtual 101, 3) := by decide +kernel
theorem dX6_chanceAt_5 : decode cX6_chanceAt 5 = .ok (.astore_n 3, 1) := by decide +kernel
theorem dX6_chanceAt_6 : decode cX6_chanceAt 6 = .ok (.aload_n 3, 1) := by decide +kernel
theorem dX6_chanceAt_7 : decode cX6_chanceAt 7 = .ok (.ifnonnull 7, 3) := by decide +kernel
theorem dX6_chanceAt_10 : decode cX6_chanceAt 10 = .ok (.iconst 0, 1) := by decide +kernel
theorem dX6_chanceAt_11 : decode cX6_chanceAt 11 = .ok (.goto 12, 3) := by decide +kernel
theorem dX6_chanceAt_14 : decode cX6_chanceAt 14 = .ok (.aload_n 3, 1) := by decide +kernel
theorem dX6_chanceAt_15 : decode cX6_chanceAt 15 = .ok (.aload_n 0, 1) := by decide +kernel
theorem dX6_chanceAt_16 : decode cX6_chanceAt 16 = .ok (.getfield 47, 3) := by decide +kernel
theorem dX6_chanceAt_19 : decode cX6_chanceAt 19 = .ok (.aload_n 2, 1) := by decide +kernel
theorem dX6_chanceAt_20 : decode cX6_chanceAt 20 = .ok (.invokevirtual 102, 3) := by decide +kernel
theorem dX6_chanceAt_23 : decode cX6_chanceAt 23 = .ok (.ireturn, 1) := by decide +kernel
theorem dX6_sinkLast_0 : decode cX6_sinkLast 0 = .ok (.aload_n 0, 1) := by decide +kernel
theorem dX6_sinkLast_1 : decode cX6_sinkLast 1 = .ok (.getfield 51, 3) := by decide +kernel
theorem dX6_sinkLast_4 : decode cX6_sinkLast 4 = .ok (.iconst 1, 1) := by decide +kernel
theorem dX6_sinkLast_5 : decode cX6_sinkLast 5 = .ok (.isub, 1) := by decide +kernel
theorem dX6_sinkLast_6 : decode cX6_sinkLast 6 = .ok (.istore_n 2, 1) := by decide +kernel
theorem dX6_sinkLast_7 : decode cX6_sinkLast 7 = .ok (.iload_n 2, 1) := by decide +kernel
theorem dX6_sinkLast_8 : decode cX6_sinkLast 8 = .ok (.ifCond .le 76, 3) := by decide +kernel
theorem dX6_sinkLast_11 : decode cX6_sinkLast 11 = .ok (.iload_n 2, 1) := by decide +kernel
theorem dX6_sinkLast_12 : decode cX6_sinkLast 12 = .ok (.aload_n 0, 1) := by decide +kernel
theorem dX6_sinkLast_13 : decode cX6_sinkLast 13 = .ok (.getfield 18, 3) := by decide +kernel
theorem dX6_sinkLast_16 : decode cX6_sinkLast 16 = .ok (.arraylength, 1) := by decide +kernel
theorem dX6_sinkLast_17 : decode cX6_sinkLast 17 = .ok (.if_icmp .ge 67, 3) := by decide +kernel
theorem dX6_sinkLast_20 : decode cX6_sinkLast 20 = .ok (.aload_n 0, 1) := by decide +kernel
theorem dX6_sinkLast_21 : decode cX6_sinkLast 21 = .ok (.aload_n 0, 1) := by decide +kernel
theorem dX6_sinkLast_22 : decode cX6_sinkLast 22 = .ok (.getfield 18, 3) := by decide +kernel
theorem dX6_sinkLast_25 : decode cX6_sinkLast 25 = .ok (.iload_n 2, 1) := by decide +kernel
theorem dX6_sinkLast_26 : decode cX6_sinkLast 26 = .ok (.iaload, 1) := by decide +kernel
theorem dX6_sinkLast_27 : decode cX6_sinkLast 27 = .ok (.aload_n 1, 1) := by decide +kernel
theorem dX6_sinkLast_28 : decode cX6_sinkLast 28 = .ok (.invokevirtual 98, 3) := by decide +kernel
theorem dX6_sinkLast_31 : decode cX6_sinkLast 31 = .ok (.aload_n 0, 1) := by decide +kernel
theorem dX6_sinkLast_32 : decode cX6_sinkLast 32 = .ok (.aload_n 0, 1) := by decide +kernel
theorem dX6_sinkLast_33 : decode cX6_sinkLast 33 = .ok (.getfield 18, 3) := by decide +kernel
theorem dX6_sinkLast_36 : decode cX6_sinkLast 36 = .ok (.iload_n 2, 1) := by decide +kernel
theorem dX6_sinkLast_37 : decode cX6_sinkLast 37 = .ok (.iconst 1, 1) := by decide +kernel
theorem dX6_sinkLast_38 : decode cX6_sinkLast 38 = .ok (.isub, 1) := by decide +kernel
theorem dX6_sinkLast_39 : decode cX6_sinkLast 39 = .ok (.iaload, 1) := by decide +kernel
theorem dX6_sinkLast_40 : decode cX6_sinkLast 40 = .ok (.aload_n 1, 1) := by decide +kernel
theorem dX6_sinkLast_41 : decode cX6_sinkLast 41 = .ok (.invokevirtual 98, 3) := by decide +kernel
theorem dX6_sinkLast_44 : decode cX6_sinkLast 44 = .ok (.if_icmp .lt 4, 3) := by decide +kernel
theorem dX6_sinkLast_47 : decode cX6_sinkLast 47 = .ok (.return_, 1) := by decide +kernel
theorem dX6_sinkLast_48 : decode cX6_sinkLast 48 = .ok (.aload_n 0, 1) := by decide +kernel
theorem dX6_sinkLast_49 : decode cX6_sinkLast 49 = .ok (.getfield 18, 3) := by decide +kernel
theorem dX6_sinkLast_52 : decode cX6_sinkLast 52 = .ok (.iload_n 2, 1) := by decide +kernel
theorem dX6_sinkLast_53 : decode cX6_sinkLast 53 = .ok (.iaload, 1) := by decide +kernel
theorem dX6_sinkLast_54 : decode cX6_sinkLast 54 = .ok (.istore_n 3, 1) := by decide +kernel
theorem dX6_sinkLast_55 : decode cX6_sinkLast 55 = .ok (.aload_n 0, 1) := by decide +kernel
theorem dX6_sinkLast_56 : decode cX6_sinkLast 56 = .ok (.getfield 18, 3) := by decide +kernel
theorem dX6_sinkLast_59 : decode cX6_sinkLast 59 = .ok (.iload_n 2, 1) := by decide +kernel
theorem dX6_sinkLast_60 : decode cX6_sinkLast 60 = .ok (.aload_n 0, 1) := by decide +kernel
theorem dX6_sinkLast_61 : decode cX6_sinkLast 61 = .ok (.getfield 18, 3) := by decide +kernel
theorem dX6_sinkLast_64 : decode cX6_sinkLast 64 = .ok (.iload_n 2, 1) := by decide +kernel
theorem dX6_sinkLast_65 : decode cX6_sinkLast 65 = .ok (.iconst 1, 1) := by decide +kernel
theorem dX6_sinkLast_66 : decode cX6_sinkLast 66 = .ok (.isub, 1) := by decide +kernel
theorem dX6_sinkLast_67 : decode cX6_sinkLast 67 = .ok (.iaload, 1) := by decide +kernel
theorem dX6_sinkLast_68 : decode cX6_sinkLast 68 = .ok (.iastore, 1) := by decide +kernel
theorem dX6_sinkLast_69 : decode cX6_sinkLast 69 = .ok (.aload_n 0, 1) := by decide +kernel
theorem dX6_sinkLast_70 : decode cX6_sinkLast 70 = .ok (.getfield 18, 3) := by decide +kernel
theorem dX6_sinkLast_73 : decode cX6_sinkLast 73 = .ok (.iload_n 2, 1) := by decide +kernel
theorem dX6_sinkLast_74 : decode cX6_sinkLast 74 = .ok (.iconst 1, 1) := by decide +kernel
theorem dX6_sinkLast_75 : decode cX6_sinkLast 75 = .ok (.isub, 1) := by decide +kernel
theorem dX6_sinkLast_76 : decode cX6_sinkLast 76 = .ok (.iload_n 3, 1) := by decide +kernel
theorem dX6_sinkLast_77 : decode cX6_sinkLast 77 = .ok (.iastore, 1) := by decide +kernel
theorem dX6_sinkLast_78 : decode cX6_sinkLast 78 = .ok (.iinc 2 (-1), 3) := by decide +kernel
theorem dX6_sinkLast_81 : decode cX6_sinkLast 81 = .ok (.goto (-74), 3) := by decide +kernel
theorem dX6_sinkLast_84 : decode cX6_sinkLast 84 = .ok (.return_, 1) := by decide +kernel
theorem dX6_askDue_0 : decode cX6_askDue 0 = .ok (.aload_n 0, 1) := by decide +kernel
theorem dX6_askDue_1 : decode cX6_askDue 1 = .ok (.iconst 0, 1) := by decide +kernel
theorem dX6_askDue_2 : decode cX6_askDue 2 = .ok (.putfield 51, 3) := by decide +kernel
theorem dX6_askDue_5 : decode cX6_askDue 5 = .ok (.iconst 0, 1) := by decide +kernel
theorem dX6_askDue_6 : decode cX6_askDue 6 = .ok (.istore_n 3, 1) := by decide +kernel
theorem dX6_askDue_7 : decode cX6_askDue 7 = .ok (.iload_n 3, 1) := by decide +kernel
theorem dX6_askDue_8 : decode cX6_askDue 8 = .ok (.aload_n 0, 1) := by decide +kernel
theorem dX6_askDue_9 : decode cX6_askDue 9 = .ok (.getfield 12, 3) := by decide +kernel
theorem dX6_askDue_12 : decode cX6_askDue 12 = .ok (.invokevirtual 31, 3) := by decide +kernel
theorem dX6_askDue_15 : decode cX6_askDue 15 = .ok (.if_icmp .ge 50, 3) := by decide +kernel
theorem dX6_askDue_18 : decode cX6_askDue 18 = .ok (.aload_n 0, 1) := by decide +kernel
theorem dX6_askDue_19 : decode cX6_askDue 19 = .ok (.getfield 12, 3) := by decide +kernel
theorem dX6_askDue_22 : decode cX6_askDue 22 = .ok (.iload_n 3, 1) := by decide +kernel
theorem dX6_askDue_23 : decode cX6_askDue 23 = .ok (.invokevirtual 35, 3) := by decide +kernel
theorem dX6_askDue_26 : decode cX6_askDue 26 = .ok (.checkcast 22, 3) := by decide +kernel
theorem dX6_askDue_29 : decode cX6_askDue 29 = .ok (.aload_n 0, 1) := by decide +kernel
theorem dX6_askDue_30 : decode cX6_askDue 30 = .ok (.getfield 47, 3) := by decide +kernel
theorem dX6_askDue_33 : decode cX6_askDue 33 = .ok (.aload_n 2, 1) := by decide +kernel
theorem dX6_askDue_34 : decode cX6_askDue 34 = .ok (.invokevirtual 78, 3) := by decide +kernel
theorem dX6_askDue_37 : decode cX6_askDue 37 = .ok (.istore 4, 2) := by decide +kernel
theorem dX6_askDue_39 : decode cX6_askDue 39 = .ok (.iload 4, 2) := by decide +kernel
theorem dX6_askDue_41 : decode cX6_askDue 41 = .ok (.ifCond .lt 18, 3) := by decide +kernel
theorem dX6_askDue_44 : decode cX6_askDue 44 = .ok (.aload_n 0, 1) := by decide +kernel
theorem dX6_askDue_45 : decode cX6_askDue 45 = .ok (.iload_n 3, 1) := by decide +kernel
theorem dX6_askDue_46 : decode cX6_askDue 46 = .ok (.iload 4, 2) := by decide +kernel
theorem dX6_askDue_48 : decode cX6_askDue 48 = .ok (.invokestatic 82, 3) := by decide +kernel
theorem dX6_askDue_51 : decode cX6_askDue 51 = .ok (.invokevirtual 86, 3) := by decide +kernel
theorem dX6_askDue_54 : decode cX6_askDue 54 = .ok (.aload_n 0, 1) := by decide +kernel
theorem dX6_askDue_55 : decode cX6_askDue 55 = .ok (.aload_n 2, 1) := by decide +kernel
theorem dX6_askDue_56 : decode cX6_askDue 56 = .ok (.invokevirtual 89, 3) := by decide +kernel
theorem dX6_askDue_59 : decode cX6_askDue 59 = .ok (.iinc 3 1, 3) := by decide +kernel
theorem dX6_askDue_62 : decode cX6_askDue 62 = .ok (.goto (-55), 3) := by decide +kernel
theorem dX6_askDue_65 : decode cX6_askDue 65 = .ok (.aload_n 0, 1) := by decide +kernel
theorem dX6_askDue_66 : decode cX6_askDue 66 = .ok (.aload_n 0, 1) := by decide +kernel
theorem dX6_askDue_67 : decode cX6_askDue 67 = .ok (.getfield 51, 3) := by decide +kernel
theorem dX6_askDue_70 : decode cX6_askDue 70 = .ok (.iload_n 1, 1) := by decide +kernel
theorem dX6_askDue_71 : decode cX6_askDue 71 = .ok (.invokestatic 93, 3) := by decide +kernel
theorem dX6_askDue_74 : decode cX6_askDue 74 = .ok (.putfield 51, 3) := by decide +kernel
theorem dX6_askDue_77 : decode cX6_askDue 77 = .ok (.return_, 1) := by decide +kernel
theorem dX6_isReady_0 : decode cX6_isReady 0 = .ok (.aload_n 1, 1) := by decide +kernel
theorem dX6_isReady_1 : decode cX6_isReady 1 = .ok (.ifnonnull 5, 3) := by decide +kernel
theorem dX6_isReady_4 : decode cX6_isReady 4 = .ok (.iconst 0, 1) := by decide +kernel
theorem dX6_isReady_5 : decode cX6_isReady 5 = .ok (.ireturn, 1) := by decide +kernel
theorem dX6_isReady_6 : decode cX6_isReady 6 = .ok (.iconst 0, 1) := by decide +kernel
theorem dX6_isReady_7 : decode cX6_isReady 7 = .ok (.istore_n 3, 1) := by decide +kernel
theorem dX6_isReady_8 : decode cX6_isReady 8 = .ok (.iload_n 3, 1) := by decide +kernel
theorem dX6_isReady_9 : decode cX6_isReady 9 = .ok (.aload_n 1, 1) := by decide +kernel
theorem dX6_isReady_10 : decode cX6_isReady 10 = .ok (.getfield 124, 3) := by decide +kernel
theorem dX6_isReady_13 : decode cX6_isReady 13 = .ok (.if_icmp .ge 50, 3) := by decide +kernel
theorem dX6_isReady_16 : decode cX6_isReady 16 = .ok (.iload_n 3, 1) := by decide +kernel
theorem dX6_isReady_17 : decode cX6_isReady 17 = .ok (.aload_n 1, 1) := by decide +kernel
theorem dX6_isReady_18 : decode cX6_isReady 18 = .ok (.getfield 129, 3) := by decide +kernel
theorem dX6_isReady_21 : decode cX6_isReady 21 = .ok (.arraylength, 1) := by decide +kernel
theorem dX6_isReady_22 : decode cX6_isReady 22 = .ok (.if_icmp .ge 41, 3) := by decide +kernel
theorem dX6_isReady_25 : decode cX6_isReady 25 = .ok (.aload_n 0, 1) := by decide +kernel
theorem dX6_isReady_26 : decode cX6_isReady 26 = .ok (.aload_n 1, 1) := by decide +kernel
theorem dX6_isReady_27 : decode cX6_isReady 27 = .ok (.getfield 129, 3) := by decide +kernel
theorem dX6_isReady_30 : decode cX6_isReady 30 = .ok (.iload_n 3, 1) := by decide +kernel
theorem dX6_isReady_31 : decode cX6_isReady 31 = .ok (.iaload, 1) := by decide +kernel
theorem dX6_isReady_32 : decode cX6_isReady 32 = .ok (.invokevirtual 39, 3) := by decide +kernel
theorem dX6_isReady_35 : decode cX6_isReady 35 = .ok (.astore 4, 2) := by decide +kernel
theorem dX6_isReady_37 : decode cX6_isReady 37 = .ok (.aload 4, 2) := by decide +kernel
theorem dX6_isReady_39 : decode cX6_isReady 39 = .ok (.ifnull 16, 3) := by decide +kernel
theorem dX6_isReady_42 : decode cX6_isReady 42 = .ok (.aload 4, 2) := by decide +kernel
theorem dX6_isReady_44 : decode cX6_isReady 44 = .ok (.aload_n 0, 1) := by decide +kernel
theorem dX6_isReady_45 : decode cX6_isReady 45 = .ok (.getfield 47, 3) := by decide +kernel
theorem dX6_isReady_48 : decode cX6_isReady 48 = .ok (.aload_n 2, 1) := by decide +kernel
theorem dX6_isReady_49 : decode cX6_isReady 49 = .ok (.invokevirtual 64, 3) := by decide +kernel
theorem dX6_isReady_52 : decode cX6_isReady 52 = .ok (.ifCond .ne 5, 3) := by decide +kernel
theorem dX6_isReady_55 : decode cX6_isReady 55 = .ok (.iconst 0, 1) := by decide +kernel
theorem dX6_isReady_56 : decode cX6_isReady 56 = .ok (.ireturn, 1) := by decide +kernel
theorem dX6_isReady_57 : decode cX6_isReady 57 = .ok (.iinc 3 1, 3) := by decide +kernel
theorem dX6_isReady_60 : decode cX6_isReady 60 = .ok (.goto (-52), 3) := by decide +kernel
theorem dX6_isReady_63 : decode cX6_isReady 63 = .ok (.iconst 1, 1) := by decide +kernel
theorem dX6_isReady_64 : decode cX6_isReady 64 = .ok (.ireturn, 1) := by decide +kernel
theorem dX6_askFresh_0 : decode cX6_askFresh 0 = .ok (.iload_n 1, 1) := by decide +kernel
theorem dX6_askFresh_1 : decode cX6_askFresh 1 = .ok (.istore 4, 2) := by decide +kernel
theorem dX6_askFresh_3 : decode cX6_askFresh 3 = .ok (.iconst 0, 1) := by decide +kernel
theorem dX6_askFresh_4 : decode cX6_askFresh 4 = .ok (.istore 5, 2) := by decide +kernel
theorem dX6_askFresh_6 : decode cX6_askFresh 6 = .ok (.iload 5, 2) := by decide +kernel
theorem dX6_askFresh_8 : decode cX6_askFresh 8 = .ok (.aload_n 0, 1) := by decide +kernel
theorem dX6_askFresh_9 : decode cX6_askFresh 9 = .ok (.getfield 12, 3) := by decide +kernel
theorem dX6_askFresh_12 : decode cX6_askFresh 12 = .ok (.invokevirtual 31, 3) := by decide +kernel
theorem dX6_askFresh_15 : decode cX6_askFresh 15 = .ok (.if_icmp .ge 73, 3) := by decide +kernel
theorem dX6_askFresh_18 : decode cX6_askFresh 18 = .ok (.iload 4, 2) := by decide +kernel
theorem dX6_askFresh_20 : decode cX6_askFresh 20 = .ok (.ifCond .le 68, 3) := by decide +kernel
theorem dX6_askFresh_23 : decode cX6_askFresh 23 = .ok (.aload_n 0, 1) := by decide +kernel
theorem dX6_askFresh_24 : decode cX6_askFresh 24 = .ok (.getfield 12, 3) := by decide +kernel
theorem dX6_askFresh_27 : decode cX6_askFresh 27 = .ok (.iload 5, 2) := by decide +kernel
theorem dX6_askFresh_29 : decode cX6_askFresh 29 = .ok (.invokevirtual 35, 3) := by decide +kernel
theorem dX6_askFresh_32 : decode cX6_askFresh 32 = .ok (.checkcast 22, 3) := by decide +kernel
theorem dX6_askFresh_35 : decode cX6_askFresh 35 = .ok (.invokevirtual 107, 3) := by decide +kernel
theorem dX6_askFresh_38 : decode cX6_askFresh 38 = .ok (.istore 6, 2) := by decide +kernel
theorem dX6_askFresh_40 : decode cX6_askFresh 40 = .ok (.iload 6, 2) := by decide +kernel
theorem dX6_askFresh_42 : decode cX6_askFresh 42 = .ok (.ifCond .lt 40, 3) := by decide +kernel
theorem dX6_askFresh_45 : decode cX6_askFresh 45 = .ok (.aload_n 0, 1) := by decide +kernel
theorem dX6_askFresh_46 : decode cX6_askFresh 46 = .ok (.iload 5, 2) := by decide +kernel
theorem dX6_askFresh_48 : decode cX6_askFresh 48 = .ok (.invokevirtual 110, 3) := by decide +kernel
theorem dX6_askFresh_51 : decode cX6_askFresh 51 = .ok (.ifCond .ne 31, 3) := by decide +kernel
theorem dX6_askFresh_54 : decode cX6_askFresh 54 = .ok (.aload_n 0, 1) := by decide +kernel
theorem dX6_askFresh_55 : decode cX6_askFresh 55 = .ok (.aload_n 2, 1) := by decide +kernel
theorem dX6_askFresh_56 : decode cX6_askFresh 56 = .ok (.iload 5, 2) := by decide +kernel
theorem dX6_askFresh_58 : decode cX6_askFresh 58 = .ok (.invokevirtual 114, 3) := by decide +kernel
theorem dX6_askFresh_61 : decode cX6_askFresh 61 = .ok (.aload_n 3, 1) := by decide +kernel
theorem dX6_askFresh_62 : decode cX6_askFresh 62 = .ok (.invokevirtual 120, 3) := by decide +kernel
theorem dX6_askFresh_65 : decode cX6_askFresh 65 = .ok (.ifCond .eq 17, 3) := by decide +kernel
theorem dX6_askFresh_68 : decode cX6_askFresh 68 = .ok (.aload_n 0, 1) := by decide +kernel
theorem dX6_askFresh_69 : decode cX6_askFresh 69 = .ok (.iload 5, 2) := by decide +kernel
theorem dX6_askFresh_71 : decode cX6_askFresh 71 = .ok (.iload 6, 2) := by decide +kernel
theorem dX6_askFresh_73 : decode cX6_askFresh 73 = .ok (.invokestatic 82, 3) := by decide +kernel
theorem dX6_askFresh_76 : decode cX6_askFresh 76 = .ok (.invokevirtual 86, 3) := by decide +kernel
theorem dX6_askFresh_79 : decode cX6_askFresh 79 = .ok (.iinc 4 (-1), 3) := by decide +kernel
theorem dX6_askFresh_82 : decode cX6_askFresh 82 = .ok (.iinc 5 1, 3) := by decide +kernel
theorem dX6_askFresh_85 : decode cX6_askFresh 85 = .ok (.goto (-79), 3) := by decide +kernel
theorem dX6_askFresh_88 : decode cX6_askFresh 88 = .ok (.return_, 1) := by decide +kernel
theorem dX7_init_0 : decode cX7_init 0 = .ok (.aload_n 0, 1) := by decide +kernel
theorem dX7_init_1 : decode cX7_init 1 = .ok (.invokespecial 3, 3) := by decide +kernel
theorem dX7_init_4 : decode cX7_init 4 = .ok (.aload_n 0, 1) := by decide +kernel
theorem dX7_init_5 : decode cX7_init 5 = .ok (.bipush 8, 2) := by decide +kernel
theorem dX7_init_7 : decode cX7_init 7 = .ok (.newarray .long, 2) := by decide +kernel
theorem dX7_init_9 : decode cX7_init 9 = .ok (.putfield 9, 3) := by decide +kernel
theorem dX7_init_12 : decode cX7_init 12 = .ok (.aload_n 0, 1) := by decide +kernel
theorem dX7_init_13 : decode cX7_init 13 = .ok (.iconst 1, 1) := by decide +kernel
theorem dX7_init_14 : decode cX7_init 14 = .ok (.putfield 15, 3) := by decide +kernel
theorem dX7_init_17 : decode cX7_init 17 = .ok (.return_, 1) := by decide +kernel
theorem dX7_begin_0 : decode cX7_begin 0 = .ok (.aload_n 0, 1) := by decide +kernel
theorem dX7_begin_1 : decode cX7_begin 1 = .ok (.iload_n 1, 1) := by decide +kernel
theorem dX7_begin_2 : decode cX7_begin 2 = .ok (.aload_n 0, 1) := by decide +kernel
theorem dX7_begin_3 : decode cX7_begin 3 = .ok (.getfield 9, 3) := by decide +kernel
theorem dX7_begin_6 : decode cX7_begin 6 = .ok (.arraylength, 1) := by decide +kernel
theorem dX7_begin_7 : decode cX7_begin 7 = .ok (.invokestatic 19, 3) := by decide +kernel
theorem dX7_begin_10 : decode cX7_begin 10 = .ok (.putfield 25, 3) := by decide +kernel
theorem dX7_begin_13 : decode cX7_begin 13 = .ok (.aload_n 0, 1) := by decide +kernel
theorem dX7_begin_14 : decode cX7_begin 14 = .ok (.iload_n 2, 1) := by decide +kernel
theorem dX7_begin_15 : decode cX7_begin 15 = .ok (.putfield 29, 3) := by decide +kernel
theorem dX7_begin_18 : decode cX7_begin 18 = .ok (.aload_n 0, 1) := by decide +kernel
theorem dX7_begin_19 : decode cX7_begin 19 = .ok (.iload_n 3, 1) := by decide +kernel
theorem dX7_begin_20 : decode cX7_begin 20 = .ok (.putfield 32, 3) := by decide +kernel
theorem dX7_begin_23 : decode cX7_begin 23 = .ok (.aload_n 0, 1) := by decide +kernel
theorem dX7_begin_24 : decode cX7_begin 24 = .ok (.iconst 0, 1) := by decide +kernel
theorem dX7_begin_25 : decode cX7_begin 25 = .ok (.putfield 35, 3) := by decide +kernel
theorem dX7_begin_28 : decode cX7_begin 28 = .ok (.aload_n 0, 1) := by decide +kernel
theorem dX7_begin_29 : decode cX7_begin 29 = .ok (.iconst 0, 1) := by decide +kernel
theorem dX7_begin_30 : decode cX7_begin 30 = .ok (.putfield 15, 3) := by decide +kernel
theorem dX7_begin_33 : decode cX7_begin 33 = .ok (.iconst 0, 1) := by decide +kernel
theorem dX7_begin_34 : decode cX7_begin 34 = .ok (.istore 4, 2) := by decide +kernel
theorem dX7_begin_36 : decode cX7_begin 36 = .ok (.iload 4, 2) := by decide +kernel
theorem dX7_begin_38 : decode cX7_begin 38 = .ok (.aload_n 0, 1) := by decide +kernel
theorem dX7_begin_39 : decode cX7_begin 39 = .ok (.getfield 9, 3) := by decide +kernel
theorem dX7_begin_42 : decode cX7_begin 42 = .ok (.arraylength, 1) := by decide +kernel
theorem dX7_begin_43 : decode cX7_begin 43 = .ok (.if_icmp .ge 17, 3) := by decide +kernel
theorem dX7_begin_46 : decode cX7_begin 46 = .ok (.aload_n 0, 1) := by decide +kernel
theorem dX7_begin_47 : decode cX7_begin 47 = .ok (.getfield 9, 3) := by decide +kernel
theorem dX7_begin_50 : decode cX7_begin 50 = .ok (.iload 4, 2) := by decide +kernel
theorem dX7_begin_52 : decode cX7_begin 52 = .ok (.lconst 1, 1) := by decide +kernel
theorem dX7_begin_53 : decode cX7_begin 53 = .ok (.lastore, 1) := by decide +kernel
theorem dX7_begin_54 : decode cX7_begin 54 = .ok (.iinc 4 1, 3) := by decide +kernel
theorem dX7_begin_57 : decode cX7_begin 57 = .ok (.goto (-21), 3) := by decide +kernel
theorem dX7_begin_60 : decode cX7_begin 60 = .ok (.return_, 1) := by decide +kernel
theorem dX7_weightOf_0 : decode cX7_weightOf 0 = .ok (.iload_n 1, 1) := by decide +kernel
theorem dX7_weightOf_1 : decode cX7_weightOf 1 = .ok (.ifCond .lt 20, 3) := by decide +kernel
theorem dX7_weightOf_4 : decode cX7_weightOf 4 = .ok (.iload_n 1, 1) := by decide +kernel
theorem dX7_weightOf_5 : decode cX7_weightOf 5 = .ok (.aload_n 0, 1) := by decide +kernel
theorem dX7_weightOf_6 : decode cX7_weightOf 6 = .ok (.getfield 25, 3) := by decide +kernel
theorem dX7_weightOf_9 : decode cX7_weightOf 9 = .ok (.if_icmp .ge 12, 3) := by decide +kernel
theorem dX7_weightOf_12 : decode cX7_weightOf 12 = .ok (.iload_n 1, 1) := by decide +kernel
theorem dX7_weightOf_13 : decode cX7_weightOf 13 = .ok (.aload_n 0, 1) := by decide +kernel
theorem dX7_weightOf_14 : decode cX7_weightOf 14 = .ok (.getfield 9, 3) := by decide +kernel
theorem dX7_weightOf_17 : decode cX7_weightOf 17 = .ok (.arraylength, 1) := by decide +kernel
theorem dX7_weightOf_18 : decode cX7_weightOf 18 = .ok (.if_icmp .lt 9, 3) := by decide +kernel
theorem dX7_weightOf_21 : decode cX7_weightOf 21 = .ok (.ldc2_w 38, 3) := by decide +kernel
theorem dX7_weightOf_24 : decode cX7_weightOf 24 = .ok (.goto 9, 3) := by decide +kernel
theorem dX7_weightOf_27 : decode cX7_weightOf 27 = .ok (.aload_n 0, 1) := by decide +kernel
theorem dX7_weightOf_28 : decode cX7_weightOf 28 = .ok (.getfield 9, 3) := by decide +kernel
theorem dX7_weightOf_31 : decode cX7_weightOf 31 = .ok (.iload_n 1, 1) := by decide +kernel
theorem dX7_weightOf_32 : decode cX7_weightOf 32 = .ok (.laload, 1) := by decide +kernel
theorem dX7_weightOf_33 : decode cX7_weightOf 33 = .ok (.lreturn, 1) := by decide +kernel
theorem dX7_likeliest_0 : decode cX7_likeliest 0 = .ok (.iconst (-1), 1) := by decide +kernel
theorem dX7_likeliest_1 : decode cX7_likeliest 1 = .ok (.istore_n 1, 1) := by decide +kernel
theorem dX7_likeliest_2 : decode cX7_likeliest 2 = .ok (.lconst 0, 1) := by decide +kernel
theorem dX7_likeliest_3 : decode cX7_likeliest 3 = .ok (.lstore_n 2, 1) := by decide +kernel
theorem dX7_likeliest_4 : decode cX7_likeliest 4 = .ok (.iconst 0, 1) := by decide +kernel
theorem dX7_likeliest_5 : decode cX7_likeliest 5 = .ok (.istore 4, 2) := by decide +kernel
theorem dX7_likeliest_7 : decode cX7_likeliest 7 = .ok (.iload 4, 2) := by decide +kernel
theorem dX7_likeliest_9 : decode cX7_likeliest 9 = .ok (.aload_n 0, 1) := by decide +kernel
theorem dX7_likeliest_10 : decode cX7_likeliest 10 = .ok (.getfield 25, 3) := by decide +kernel
theorem dX7_likeliest_13 : decode cX7_likeliest 13 = .ok (.if_icmp .ge 42, 3) := by decide +kernel
theorem dX7_likeliest_16 : decode cX7_likeliest 16 = .ok (.iload 4, 2) := by decide +kernel
theorem dX7_likeliest_18 : decode cX7_likeliest 18 = .ok (.aload_n 0, 1) := by decide +kernel
theorem dX7_likeliest_19 : decode cX7_likeliest 19 = .ok (.getfield 9, 3) := by decide +kernel
theorem dX7_likeliest_22 : decode cX7_likeliest 22 = .ok (.arraylength, 1) := by decide +kernel
theorem dX7_likeliest_23 : decode cX7_likeliest 23 = .ok (.if_icmp .ge 32, 3) := by decide +kernel
theorem dX7_likeliest_26 : decode cX7_likeliest 26 = .ok (.aload_n 0, 1) := by decide +kernel
theorem dX7_likeliest_27 : decode cX7_likeliest 27 = .ok (.getfield 9, 3) := by decide +kernel
theorem dX7_likeliest_30 : decode cX7_likeliest 30 = .ok (.iload 4, 2) := by decide +kernel
theorem dX7_likeliest_32 : decode cX7_likeliest 32 = .ok (.laload, 1) := by decide +kernel
theorem dX7_likeliest_33 : decode cX7_likeliest 33 = .ok (.lload_n 2, 1) := by decide +kernel
theorem dX7_likeliest_34 : decode cX7_likeliest 34 = .ok (.lcmp, 1) := by decide +kernel
theorem dX7_likeliest_35 : decode cX7_likeliest 35 = .ok (.ifCond .le 14, 3) := by decide +kernel
theorem dX7_likeliest_38 : decode cX7_likeliest 38 = .ok (.aload_n 0, 1) := by decide +kernel
theorem dX7_likeliest_39 : decode cX7_likeliest 39 = .ok (.getfield 9, 3) := by decide +kernel
theorem dX7_likeliest_42 : decode cX7_likeliest 42 = .ok (.iload 4, 2) := by decide +kernel
theorem dX7_likeliest_44 : decode cX7_likeliest 44 = .ok (.laload, 1) := by decide +kernel
theorem dX7_likeliest_45 : decode cX7_likeliest 45 = .ok (.lstore_n 2, 1) := by decide +kernel
theorem dX7_likeliest_46 : decode cX7_likeliest 46 = .ok (.iload 4, 2) := by decide +kernel
theorem dX7_likeliest_48 : decode cX7_likeliest 48 = .ok (.istore_n 1, 1) := by decide +kernel
theorem dX7_likeliest_49 : decode cX7_likeliest 49 = .ok (.iinc 4 1, 3) := by decide +kernel
theorem dX7_likeliest_52 : decode cX7_likeliest 52 = .ok (.goto (-45), 3) := by decide +kernel
theorem dX7_likeliest_55 : decode cX7_likeliest 55 = .ok (.iload_n 1, 1) := by decide +kernel
theorem dX7_likeliest_56 : decode cX7_likeliest 56 = .ok (.ireturn, 1) := by decide +kernel
theorem dX7_factorOf_0 : decode cX7_factorOf 0 = .ok (.iload_n 1, 1) := by decide +kernel
theorem dX7_factorOf_1 : decode cX7_factorOf 1 = .ok (.iload_n 2, 1) := by decide +kernel
theorem dX7_factorOf_2 : decode cX7_factorOf 2 = .ok (.if_icmp .lt 23, 3) := by decide +kernel
theorem dX7_factorOf_5 : decode cX7_factorOf 5 = .ok (.iload_n 3, 1) := by decide +kernel
theorem dX7_factorOf_6 : decode cX7_factorOf 6 = .ok (.ifCond .eq 14, 3) := by decide +kernel
theorem dX7_factorOf_9 : decode cX7_factorOf 9 = .ok (.sipush 1000, 3) := by decide +kernel
theorem dX7_factorOf_12 : decode cX7_factorOf 12 = .ok (.aload_n 0, 1) := by decide +kernel
theorem dX7_factorOf_13 : decode cX7_factorOf 13 = .ok (.getfield 29, 3) := by decide +kernel
theorem dX7_factorOf_16 : decode cX7_factorOf 16 = .ok (.isub, 1) := by decide +kernel
theorem dX7_factorOf_17 : decode cX7_factorOf 17 = .ok (.goto 7, 3) := by decide +kernel
theorem dX7_factorOf_20 : decode cX7_factorOf 20 = .ok (.aload_n 0, 1) := by decide +kernel
theorem dX7_factorOf_21 : decode cX7_factorOf 21 = .ok (.getfield 29, 3) := by decide +kernel
theorem dX7_factorOf_24 : decode cX7_factorOf 24 = .ok (.ireturn, 1) := by decide +kernel
theorem dX7_factorOf_25 : decode cX7_factorOf 25 = .ok (.iload_n 3, 1) := by decide +kernel
theorem dX7_factorOf_26 : decode cX7_factorOf 26 = .ok (.ifCond .eq 10, 3) := by decide +kernel
theorem dX7_factorOf_29 : decode cX7_factorOf 29 = .ok (.aload_n 0, 1) := by decide +kernel
theorem dX7_factorOf_30 : decode cX7_factorOf 30 = .ok (.getfield 32, 3) := by decide +kernel
theorem dX7_factorOf_33 : decode cX7_factorOf 33 = .ok (.goto 11, 3) := by decide +kernel
theorem dX7_factorOf_36 : decode cX7_factorOf 36 = .ok (.sipush 1000, 3) := by decide +kernel
theorem dX7_factorOf_39 : decode cX7_factorOf 39 = .ok (.aload_n 0, 1) := by decide +kernel
theorem dX7_factorOf_40 : decode cX7_factorOf 40 = .ok (.getfield 32, 3) := by decide +kernel
theorem dX7_factorOf_43 : decode cX7_factorOf 43 = .ok (.isub, 1) := by decide +kernel
theorem dX7_factorOf_44 : decode cX7_factorOf 44 = .ok (.ireturn, 1) := by decide +kernel
theorem dX7_greatestBehind_0 : decode cX7_greatestBehind 0 = .ok (.lconst 0, 1) := by decide +kernel
theorem dX7_greatestBehind_1 : decode cX7_greatestBehind 1 = .ok (.lstore_n 3, 1) := by decide +kernel
theorem dX7_greatestBehind_2 : decode cX7_greatestBehind 2 = .ok (.iconst 0, 1) := by decide +kernel
theorem dX7_greatestBehind_3 : decode cX7_greatestBehind 3 = .ok (.istore 5, 2) := by decide +kernel
theorem dX7_greatestBehind_5 : decode cX7_greatestBehind 5 = .ok (.iload 5, 2) := by decide +kernel
theorem dX7_greatestBehind_7 : decode cX7_greatestBehind 7 = .ok (.aload_n 0, 1) := by decide +kernel
theorem dX7_greatestBehind_8 : decode cX7_greatestBehind 8 = .ok (.getfield 25, 3) := by decide +kernel
theorem dX7_greatestBehind_11 : decode cX7_greatestBehind 11 = .ok (.if_icmp .ge 41, 3) := by decide +kernel
theorem dX7_greatestBehind_14 : decode cX7_greatestBehind 14 = .ok (.iload 5, 2) := by decide +kernel
theorem dX7_greatestBehind_16 : decode cX7_greatestBehind 16 = .ok (.aload_n 0, 1) := by decide +kernel
theorem dX7_greatestBehind_17 : decode cX7_greatestBehind 17 = .ok (.getfield 9, 3) := by decide +kernel
theorem dX7_greatestBehind_20 : decode cX7_greatestBehind 20 = .ok (.arraylength, 1) := by decide +kernel
theorem dX7_greatestBehind_21 : decode cX7_greatestBehind 21 = .ok (.if_icmp .ge 31, 3) := by decide +kernel
theorem dX7_greatestBehind_24 : decode cX7_greatestBehind 24 = .ok (.lload_n 3, 1) := by decide +kernel
theorem dX7_greatestBehind_25 : decode cX7_greatestBehind 25 = .ok (.aload_n 0, 1) := by decide +kernel
theorem dX7_greatestBehind_26 : decode cX7_greatestBehind 26 = .ok (.getfield 9, 3) := by decide +kernel
theorem dX7_greatestBehind_29 : decode cX7_greatestBehind 29 = .ok (.iload 5, 2) := by decide +kernel
theorem dX7_greatestBehind_31 : decode cX7_greatestBehind 31 = .ok (.laload, 1) := by decide +kernel
theorem dX7_greatestBehind_32 : decode cX7_greatestBehind 32 = .ok (.aload_n 0, 1) := by decide +kernel
theorem dX7_greatestBehind_33 : decode cX7_greatestBehind 33 = .ok (.iload 5, 2) := by decide +kernel
theorem dX7_greatestBehind_35 : decode cX7_greatestBehind 35 = .ok (.iload_n 1, 1) := by decide +kernel
theorem dX7_greatestBehind_36 : decode cX7_greatestBehind 36 = .ok (.iload_n 2, 1) := by decide +kernel
theorem dX7_greatestBehind_37 : decode cX7_greatestBehind 37 = .ok (.invokevirtual 44, 3) := by decide +kernel
theorem dX7_greatestBehind_40 : decode cX7_greatestBehind 40 = .ok (.i2l, 1) := by decide +kernel
theorem dX7_greatestBehind_41 : decode cX7_greatestBehind 41 = .ok (.lmul, 1) := by decide +kernel
theorem dX7_greatestBehind_42 : decode cX7_greatestBehind 42 = .ok (.invokestatic 48, 3) := by decide +kernel
theorem dX7_greatestBehind_45 : decode cX7_greatestBehind 45 = .ok (.lstore_n 3, 1) := by decide +kernel
theorem dX7_greatestBehind_46 : decode cX7_greatestBehind 46 = .ok (.iinc 5 1, 3) := by decide +kernel
theorem dX7_greatestBehind_49 : decode cX7_greatestBehind 49 = .ok (.goto (-44), 3) := by decide +kernel
theorem dX7_greatestBehind_52 : decode cX7_greatestBehind 52 = .ok (.lload_n 3, 1) := by decide +kernel
theorem dX7_greatestBehind_53 : decode cX7_greatestBehind 53 = .ok (.lreturn, 1) := by decide +kernel
theorem dX7_bestQuestion_0 : decode cX7_bestQuestion 0 = .ok (.iconst 1, 1) := by decide +kernel
theorem dX7_bestQuestion_1 : decode cX7_bestQuestion 1 = .ok (.istore_n 1, 1) := by decide +kernel
theorem dX7_bestQuestion_2 : decode cX7_bestQuestion 2 = .ok (.lconst 0, 1) := by decide +kernel
theorem dX7_bestQuestion_3 : decode cX7_bestQuestion 3 = .ok (.lstore_n 2, 1) := by decide +kernel
theorem dX7_bestQuestion_4 : decode cX7_bestQuestion 4 = .ok (.iconst 1, 1) := by decide +kernel
theorem dX7_bestQuestion_5 : decode cX7_bestQuestion 5 = .ok (.istore 4, 2) := by decide +kernel
theorem dX7_bestQuestion_7 : decode cX7_bestQuestion 7 = .ok (.iload 4, 2) := by decide +kernel
theorem dX7_bestQuestion_9 : decode cX7_bestQuestion 9 = .ok (.aload_n 0, 1) := by decide +kernel
theorem dX7_bestQuestion_10 : decode cX7_bestQuestion 10 = .ok (.getfield 25, 3) := by decide +kernel
theorem dX7_bestQuestion_13 : decode cX7_bestQuestion 13 = .ok (.if_icmp .ge 39, 3) := by decide +kernel
theorem dX7_bestQuestion_16 : decode cX7_bestQuestion 16 = .ok (.aload_n 0, 1) := by decide +kernel
theorem dX7_bestQuestion_17 : decode cX7_bestQuestion 17 = .ok (.iload 4, 2) := by decide +kernel
theorem dX7_bestQuestion_19 : decode cX7_bestQuestion 19 = .ok (.iconst 1, 1) := by decide +kernel
theorem dX7_bestQuestion_20 : decode cX7_bestQuestion 20 = .ok (.invokevirtual 40, 3) := by decide +kernel
theorem dX7_bestQuestion_23 : decode cX7_bestQuestion 23 = .ok (.aload_n 0, 1) := by decide +kernel
theorem dX7_bestQuestion_24 : decode cX7_bestQuestion 24 = .ok (.iload 4, 2) := by decide +kernel
theorem dX7_bestQuestion_26 : decode cX7_bestQuestion 26 = .ok (.iconst 0, 1) := by decide +kernel
theorem dX7_bestQuestion_27 : decode cX7_bestQuestion 27 = .ok (.invokevirtual 40, 3) := by decide +kernel
theorem dX7_bestQuestion_30 : decode cX7_bestQuestion 30 = .ok (.ladd, 1) := by decide +kernel
theorem dX7_bestQuestion_31 : decode cX7_bestQuestion 31 = .ok (.lstore 5, 2) := by decide +kernel
theorem dX7_bestQuestion_33 : decode cX7_bestQuestion 33 = .ok (.lload 5, 2) := by decide +kernel
theorem dX7_bestQuestion_35 : decode cX7_bestQuestion 35 = .ok (.lload_n 2, 1) := by decide +kernel
theorem dX7_bestQuestion_36 : decode cX7_bestQuestion 36 = .ok (.lcmp, 1) := by decide +kernel
theorem dX7_bestQuestion_37 : decode cX7_bestQuestion 37 = .ok (.ifCond .le 9, 3) := by decide +kernel
theorem dX7_bestQuestion_40 : decode cX7_bestQuestion 40 = .ok (.lload 5, 2) := by decide +kernel
theorem dX7_bestQuestion_42 : decode cX7_bestQuestion 42 = .ok (.lstore_n 2, 1) := by decide +kernel
theorem dX7_bestQuestion_43 : decode cX7_bestQuestion 43 = .ok (.iload 4, 2) := by decide +kernel
theorem dX7_bestQuestion_45 : decode cX7_bestQuestion 45 = .ok (.istore_n 1, 1) := by decide +kernel
theorem dX7_bestQuestion_46 : decode cX7_bestQuestion 46 = .ok (.iinc 4 1, 3) := by decide +kernel
theorem dX7_bestQuestion_49 : decode cX7_bestQuestion 49 = .ok (.goto (-42), 3) := by decide +kernel
theorem dX7_bestQuestion_52 : decode cX7_bestQuestion 52 = .ok (.iload_n 1, 1) := by decide +kernel
theorem dX7_bestQuestion_53 : decode cX7_bestQuestion 53 = .ok (.ireturn, 1) := by decide +kernel
theorem dX7_isClear_0 : decode cX7_isClear 0 = .ok (.lconst 0, 1) := by decide +kernel
theorem dX7_isClear_1 : decode cX7_isClear 1 = .ok (.lstore_n 1, 1) := by decide +kernel
theorem dX7_isClear_2 : decode cX7_isClear 2 = .ok (.lconst 0, 1) := by decide +kernel
theorem dX7_isClear_3 : decode cX7_isClear 3 = .ok (.lstore_n 3, 1) := by decide +kernel
theorem dX7_isClear_4 : decode cX7_isClear 4 = .ok (.iconst 0, 1) := by decide +kernel
theorem dX7_isClear_5 : decode cX7_isClear 5 = .ok (.istore 5, 2) := by decide +kernel
theorem dX7_isClear_7 : decode cX7_isClear 7 = .ok (.iload 5, 2) := by decide +kernel
theorem dX7_isClear_9 : decode cX7_isClear 9 = .ok (.aload_n 0, 1) := by decide +kernel
theorem dX7_isClear_10 : decode cX7_isClear 10 = .ok (.getfield 25, 3) := by decide +kernel
theorem dX7_isClear_13 : decode cX7_isClear 13 = .ok (.if_icmp .ge 41, 3) := by decide +kernel
theorem dX7_isClear_16 : decode cX7_isClear 16 = .ok (.iload 5, 2) := by decide +kernel
theorem dX7_isClear_18 : decode cX7_isClear 18 = .ok (.aload_n 0, 1) := by decide +kernel
theorem dX7_isClear_19 : decode cX7_isClear 19 = .ok (.getfield 9, 3) := by decide +kernel
theorem dX7_isClear_22 : decode cX7_isClear 22 = .ok (.arraylength, 1) := by decide +kernel
theorem dX7_isClear_23 : decode cX7_isClear 23 = .ok (.if_icmp .ge 31, 3) := by decide +kernel
theorem dX7_isClear_26 : decode cX7_isClear 26 = .ok (.lload_n 1, 1) := by decide +kernel
theorem dX7_isClear_27 : decode cX7_isClear 27 = .ok (.aload_n 0, 1) := by decide +kernel
theorem dX7_isClear_28 : decode cX7_isClear 28 = .ok (.getfield 9, 3) := by decide +kernel
theorem dX7_isClear_31 : decode cX7_isClear 31 = .ok (.iload 5, 2) := by decide +kernel
theorem dX7_isClear_33 : decode cX7_isClear 33 = .ok (.laload, 1) := by decide +kernel
theorem dX7_isClear_34 : decode cX7_isClear 34 = .ok (.invokestatic 48, 3) := by decide +kernel
theorem dX7_isClear_37 : decode cX7_isClear 37 = .ok (.lstore_n 1, 1) := by decide +kernel
theorem dX7_isClear_38 : decode cX7_isClear 38 = .ok (.lload_n 3, 1) := by decide +kernel
theorem dX7_isClear_39 : decode cX7_isClear 39 = .ok (.aload_n 0, 1) := by decide +kernel
theorem dX7_isClear_40 : decode cX7_isClear 40 = .ok (.getfield 9, 3) := by decide +kernel
theorem dX7_isClear_43 : decode cX7_isClear 43 = .ok (.iload 5, 2) := by decide +kernel
theorem dX7_isClear_45 : decode cX7_isClear 45 = .ok (.laload, 1) := by decide +kernel
theorem dX7_isClear_46 : decode cX7_isClear 46 = .ok (.ladd, 1) := by decide +kernel
theorem dX7_isClear_47 : decode cX7_isClear 47 = .ok (.lstore_n 3, 1) := by decide +kernel
theorem dX7_isClear_48 : decode cX7_isClear 48 = .ok (.iinc 5 1, 3) := by decide +kernel
theorem dX7_isClear_51 : decode cX7_isClear 51 = .ok (.goto (-44), 3) := by decide +kernel
theorem dX7_isClear_54 : decode cX7_isClear 54 = .ok (.lload_n 1, 1) := by decide +kernel
theorem dX7_isClear_55 : decode cX7_isClear 55 = .ok (.ldc2_w 59, 3) := by decide +kernel
theorem dX7_isClear_58 : decode cX7_isClear 58 = .ok (.ldiv, 1) := by decide +kernel
theorem dX7_isClear_59 : decode cX7_isClear 59 = .ok (.lload_n 3, 1) := by decide +kernel
theorem dX7_isClear_60 : decode cX7_isClear 60 = .ok (.lload_n 1, 1) := by decide +kernel
theorem dX7_isClear_61 : decode cX7_isClear 61 = .ok (.lsub, 1) := by decide +kernel
theorem dX7_isClear_62 : decode cX7_isClear 62 = .ok (.lcmp, 1) := by decide +kernel
theorem dX7_isClear_63 : decode cX7_isClear 63 = .ok (.ifCond .lt 7, 3) := by decide +kernel
theorem dX7_isClear_66 : decode cX7_isClear 66 = .ok (.iconst 1, 1) := by decide +kernel
theorem dX7_isClear_67 : decode cX7_isClear 67 = .ok (.goto 4, 3) := by decide +kernel
theorem dX7_isClear_70 : decode cX7_isClear 70 = .ok (.iconst 0, 1) := by decide +kernel
theorem dX7_isClear_71 : decode cX7_isClear 71 = .ok (.ireturn, 1) := by decide +kernel
theorem dX7_commonDivisor_0 : decode cX7_commonDivisor 0 = .ok (.lload_n 0, 1) := by decide +kernel
theorem dX7_commonDivisor_1 : decode cX7_commonDivisor 1 = .ok (.lstore 4, 2) := by decide +kernel
theorem dX7_commonDivisor_3 : decode cX7_commonDivisor 3 = .ok (.lload_n 2, 1) := by decide +kernel
theorem dX7_commonDivisor_4 : decode cX7_commonDivisor 4 = .ok (.lstore 6, 2) := by decide +kernel
theorem dX7_commonDivisor_6 : decode cX7_commonDivisor 6 = .ok (.iconst 0, 1) := by decide +kernel
theorem dX7_commonDivisor_7 : decode cX7_commonDivisor 7 = .ok (.istore 8, 2) := by decide +kernel
theorem dX7_commonDivisor_9 : decode cX7_commonDivisor 9 = .ok (.iload 8, 2) := by decide +kernel
theorem dX7_commonDivisor_11 : decode cX7_commonDivisor 11 = .ok (.sipush 200, 3) := by decide +kernel
theorem dX7_commonDivisor_14 : decode cX7_commonDivisor 14 = .ok (.if_icmp .ge 31, 3) := by decide +kernel
theorem dX7_commonDivisor_17 : decode cX7_commonDivisor 17 = .ok (.lload 6, 2) := by decide +kernel
theorem dX7_commonDivisor_19 : decode cX7_commonDivisor 19 = .ok (.lconst 0, 1) := by decide +kernel
theorem dX7_commonDivisor_20 : decode cX7_commonDivisor 20 = .ok (.lcmp, 1) := by decide +kernel
theorem dX7_commonDivisor_21 : decode cX7_commonDivisor 21 = .ok (.ifCond .eq 24, 3) := by decide +kernel
theorem dX7_commonDivisor_24 : decode cX7_commonDivisor 24 = .ok (.lload 4, 2) := by decide +kernel
theorem dX7_commonDivisor_26 : decode cX7_commonDivisor 26 = .ok (.lload 6, 2) := by decide +kernel
theorem dX7_commonDivisor_28 : decode cX7_commonDivisor 28 = .ok (.lrem, 1) := by decide +kernel
theorem dX7_commonDivisor_29 : decode cX7_commonDivisor 29 = .ok (.lstore 9, 2) := by decide +kernel
theorem dX7_commonDivisor_31 : decode cX7_commonDivisor 31 = .ok (.lload 6, 2) := by decide +kernel
theorem dX7_commonDivisor_33 : decode cX7_commonDivisor 33 = .ok (.lstore 4, 2) := by decide +kernel
theorem dX7_commonDivisor_35 : decode cX7_commonDivisor 35 = .ok (.lload 9, 2) := by decide +kernel
theorem dX7_commonDivisor_37 : decode cX7_commonDivisor 37 = .ok (.lstore 6, 2) := by decide +kernel
theorem dX7_commonDivisor_39 : decode cX7_commonDivisor 39 = .ok (.iinc 8 1, 3) := by decide +kernel
theorem dX7_commonDivisor_42 : decode cX7_commonDivisor 42 = .ok (.goto (-33), 3) := by decide +kernel
theorem dX7_commonDivisor_45 : decode cX7_commonDivisor 45 = .ok (.lload 4, 2) := by decide +kernel
theorem dX7_commonDivisor_47 : decode cX7_commonDivisor 47 = .ok (.lreturn, 1) := by decide +kernel
theorem dX7_hear_0 : decode cX7_hear 0 = .ok (.lconst 0, 1) := by decide +kernel
theorem dX7_hear_1 : decode cX7_hear 1 = .ok (.lstore_n 3, 1) := by decide +kernel
theorem dX7_hear_2 : decode cX7_hear 2 = .ok (.iconst 0, 1) := by decide +kernel
theorem dX7_hear_3 : decode cX7_hear 3 = .ok (.istore 5, 2) := by decide +kernel
theorem dX7_hear_5 : decode cX7_hear 5 = .ok (.iload 5, 2) := by decide +kernel
theorem dX7_hear_7 : decode cX7_hear 7 = .ok (.aload_n 0, 1) := by decide +kernel
theorem dX7_hear_8 : decode cX7_hear 8 = .ok (.getfield 25, 3) := by decide +kernel
theorem dX7_hear_11 : decode cX7_hear 11 = .ok (.if_icmp .ge 50, 3) := by decide +kernel
theorem dX7_hear_14 : decode cX7_hear 14 = .ok (.iload 5, 2) := by decide +kernel
theorem dX7_hear_16 : decode cX7_hear 16 = .ok (.aload_n 0, 1) := by decide +kernel
theorem dX7_hear_17 : decode cX7_hear 17 = .ok (.getfield 9, 3) := by decide +kernel
theorem dX7_hear_20 : decode cX7_hear 20 = .ok (.arraylength, 1) := by decide +kernel
theorem dX7_hear_21 : decode cX7_hear 21 = .ok (.if_icmp .ge 40, 3) := by decide +kernel
theorem dX7_hear_24 : decode cX7_hear 24 = .ok (.aload_n 0, 1) := by decide +kernel
theorem dX7_hear_25 : decode cX7_hear 25 = .ok (.getfield 9, 3) := by decide +kernel
theorem dX7_hear_28 : decode cX7_hear 28 = .ok (.iload 5, 2) := by decide +kernel
theorem dX7_hear_30 : decode cX7_hear 30 = .ok (.dup2, 1) := by decide +kernel
theorem dX7_hear_31 : decode cX7_hear 31 = .ok (.laload, 1) := by decide +kernel
theorem dX7_hear_32 : decode cX7_hear 32 = .ok (.aload_n 0, 1) := by decide +kernel
theorem dX7_hear_33 : decode cX7_hear 33 = .ok (.iload 5, 2) := by decide +kernel
theorem dX7_hear_35 : decode cX7_hear 35 = .ok (.iload_n 1, 1) := by decide +kernel
theorem dX7_hear_36 : decode cX7_hear 36 = .ok (.iload_n 2, 1) := by decide +kernel
theorem dX7_hear_37 : decode cX7_hear 37 = .ok (.invokevirtual 44, 3) := by decide +kernel
theorem dX7_hear_40 : decode cX7_hear 40 = .ok (.i2l, 1) := by decide +kernel
theorem dX7_hear_41 : decode cX7_hear 41 = .ok (.lmul, 1) := by decide +kernel
theorem dX7_hear_42 : decode cX7_hear 42 = .ok (.lastore, 1) := by decide +kernel
theorem dX7_hear_43 : decode cX7_hear 43 = .ok (.aload_n 0, 1) := by decide +kernel
theorem dX7_hear_44 : decode cX7_hear 44 = .ok (.getfield 9, 3) := by decide +kernel
theorem dX7_hear_47 : decode cX7_hear 47 = .ok (.iload 5, 2) := by decide +kernel
theorem dX7_hear_49 : decode cX7_hear 49 = .ok (.laload, 1) := by decide +kernel
theorem dX7_hear_50 : decode cX7_hear 50 = .ok (.lload_n 3, 1) := by decide +kernel
theorem dX7_hear_51 : decode cX7_hear 51 = .ok (.invokestatic 52, 3) := by decide +kernel
theorem dX7_hear_54 : decode cX7_hear 54 = .ok (.lstore_n 3, 1) := by decide +kernel
theorem dX7_hear_55 : decode cX7_hear 55 = .ok (.iinc 5 1, 3) := by decide +kernel
theorem dX7_hear_58 : decode cX7_hear 58 = .ok (.goto (-53), 3) := by decide +kernel
theorem dX7_hear_61 : decode cX7_hear 61 = .ok (.iconst 0, 1) := by decide +kernel
theorem dX7_hear_62 : decode cX7_hear 62 = .ok (.istore 5, 2) := by decide +kernel
theorem dX7_hear_64 : decode cX7_hear 64 = .ok (.iload 5, 2) := by decide +kernel
theorem dX7_hear_66 : decode cX7_hear 66 = .ok (.aload_n 0, 1) := by decide +kernel
theorem dX7_hear_67 : decode cX7_hear 67 = .ok (.getfield 25, 3) := by decide +kernel
theorem dX7_hear_70 : decode cX7_hear 70 = .ok (.if_icmp .ge 36, 3) := by decide +kernel
theorem dX7_hear_73 : decode cX7_hear 73 = .ok (.iload 5, 2) := by decide +kernel
theorem dX7_hear_75 : decode cX7_hear 75 = .ok (.aload_n 0, 1) := by decide +kernel
theorem dX7_hear_76 : decode cX7_hear 76 = .ok (.getfield 9, 3) := by decide +kernel
theorem dX7_hear_79 : decode cX7_hear 79 = .ok (.arraylength, 1) := by decide +kernel
theorem dX7_hear_80 : decode cX7_hear 80 = .ok (.if_icmp .ge 26, 3) := by decide +kernel
theorem dX7_hear_83 : decode cX7_hear 83 = .ok (.lload_n 3, 1) := by decide +kernel
theorem dX7_hear_84 : decode cX7_hear 84 = .ok (.lconst 1, 1) := by decide +kernel
theorem dX7_hear_85 : decode cX7_hear 85 = .ok (.lcmp, 1) := by decide +kernel
theorem dX7_hear_86 : decode cX7_hear 86 = .ok (.ifCond .le 14, 3) := by decide +kernel
theorem dX7_hear_89 : decode cX7_hear 89 = .ok (.aload_n 0, 1) := by decide +kernel
theorem dX7_hear_90 : decode cX7_hear 90 = .ok (.getfield 9, 3) := by decide +kernel
theorem dX7_hear_93 : decode cX7_hear 93 = .ok (.iload 5, 2) := by decide +kernel
theorem dX7_hear_95 : decode cX7_hear 95 = .ok (.dup2, 1) := by decide +kernel
theorem dX7_hear_96 : decode cX7_hear 96 = .ok (.laload, 1) := by decide +kernel
theorem dX7_hear_97 : decode cX7_hear 97 = .ok (.lload_n 3, 1) := by decide +kernel
theorem dX7_hear_98 : decode cX7_hear 98 = .ok (.ldiv, 1) := by decide +kernel
theorem dX7_hear_99 : decode cX7_hear 99 = .ok (.lastore, 1) := by decide +kernel
theorem dX7_hear_100 : decode cX7_hear 100 = .ok (.iinc 5 1, 3) := by decide +kernel
theorem dX7_hear_103 : decode cX7_hear 103 = .ok (.goto (-39), 3) := by decide +kernel
theorem dX7_hear_106 : decode cX7_hear 106 = .ok (.aload_n 0, 1) := by decide +kernel
theorem dX7_hear_107 : decode cX7_hear 107 = .ok (.dup, 1) := by decide +kernel
theorem dX7_hear_108 : decode cX7_hear 108 = .ok (.getfield 35, 3) := by decide +kernel
theorem dX7_hear_111 : decode cX7_hear 111 = .ok (.iconst 1, 1) := by decide +kernel
theorem dX7_hear_112 : decode cX7_hear 112 = .ok (.iadd, 1) := by decide +kernel
theorem dX7_hear_113 : decode cX7_hear 113 = .ok (.putfield 35, 3) := by decide +kernel
theorem dX7_hear_116 : decode cX7_hear 116 = .ok (.aload_n 0, 1) := by decide +kernel
theorem dX7_hear_117 : decode cX7_hear 117 = .ok (.aload_n 0, 1) := by decide +kernel
theorem dX7_hear_118 : decode cX7_hear 118 = .ok (.getfield 35, 3) := by decide +kernel
theorem dX7_hear_121 : decode cX7_hear 121 = .ok (.bipush 6, 2) := by decide +kernel
theorem dX7_hear_123 : decode cX7_hear 123 = .ok (.if_icmp .ge 10, 3) := by decide +kernel
theorem dX7_hear_126 : decode cX7_hear 126 = .ok (.aload_n 0, 1) := by decide +kernel
theorem dX7_hear_127 : decode cX7_hear 127 = .ok (.invokevirtual 55, 3) := by decide +kernel
theorem dX7_hear_130 : decode cX7_hear 130 = .ok (.ifCond .eq 7, 3) := by decide +kernel
theorem dX7_hear_133 : decode cX7_hear 133 = .ok (.iconst 1, 1) := by decide +kernel
theorem dX7_hear_134 : decode cX7_hear 134 = .ok (.goto 4, 3) := by decide +kernel
theorem dX7_hear_137 : decode cX7_hear 137 = .ok (.iconst 0, 1) := by decide +kernel
theorem dX7_hear_138 : decode cX7_hear 138 = .ok (.putfield 15, 3) := by decide +kernel
theorem dX7_hear_141 : decode cX7_hear 141 = .ok (.return_, 1) := by decide +kernel
theorem dX8_copy_0 : decode cX8_copy 0 = .ok (.new 10, 3) := by decide +kernel
theorem dX8_copy_3 : decode cX8_copy 3 = .ok (.dup, 1) := by decide +kernel
theorem dX8_copy_4 : decode cX8_copy 4 = .ok (.invokespecial 18, 3) := by decide +kernel
theorem dX8_copy_7 : decode cX8_copy 7 = .ok (.astore_n 1, 1) := by decide +kernel
theorem dX8_copy_8 : decode cX8_copy 8 = .ok (.aload_n 1, 1) := by decide +kernel
theorem dX8_copy_9 : decode cX8_copy 9 = .ok (.aload_n 0, 1) := by decide +kernel
theorem dX8_copy_10 : decode cX8_copy 10 = .ok (.invokevirtual 19, 3) := by decide +kernel
theorem dX8_copy_13 : decode cX8_copy 13 = .ok (.aload_n 1, 1) := by decide +kernel
theorem dX8_copy_14 : decode cX8_copy 14 = .ok (.areturn, 1) := by decide +kernel
theorem dX8_tell_0 : decode cX8_tell 0 = .ok (.iload_n 1, 1) := by decide +kernel
theorem dX8_tell_1 : decode cX8_tell 1 = .ok (.tableswitch 60 0 4 #[35, 40, 45, 50, 55], 35) := by decide +kernel
theorem dX8_tell_36 : decode cX8_tell 36 = .ok (.aload_n 0, 1) := by decide +kernel
theorem dX8_tell_37 : decode cX8_tell 37 = .ok (.getfield 23, 3) := by decide +kernel
theorem dX8_tell_40 : decode cX8_tell 40 = .ok (.ireturn, 1) := by decide +kernel
theorem dX8_tell_41 : decode cX8_tell 41 = .ok (.aload_n 0, 1) := by decide +kernel
theorem dX8_tell_42 : decode cX8_tell 42 = .ok (.getfield 9, 3) := by decide +kernel
theorem dX8_tell_45 : decode cX8_tell 45 = .ok (.ireturn, 1) := by decide +kernel
theorem dX8_tell_46 : decode cX8_tell 46 = .ok (.aload_n 0, 1) := by decide +kernel
theorem dX8_tell_47 : decode cX8_tell 47 = .ok (.getfield 26, 3) := by decide +kernel
theorem dX8_tell_50 : decode cX8_tell 50 = .ok (.ireturn, 1) := by decide +kernel
theorem dX8_tell_51 : decode cX8_tell 51 = .ok (.aload_n 0, 1) := by decide +kernel
theorem dX8_tell_52 : decode cX8_tell 52 = .ok (.getfield 15, 3) := by decide +kernel
theorem dX8_tell_55 : decode cX8_tell 55 = .ok (.ireturn, 1) := by decide +kernel
theorem dX8_tell_56 : decode cX8_tell 56 = .ok (.aload_n 0, 1) := by decide +kernel
theorem dX8_tell_57 : decode cX8_tell 57 = .ok (.getfield 29, 3) := by decide +kernel
theorem dX8_tell_60 : decode cX8_tell 60 = .ok (.ireturn, 1) := by decide +kernel
theorem dX8_tell_61 : decode cX8_tell 61 = .ok (.bipush (-2), 2) := by decide +kernel
theorem dX8_tell_63 : decode cX8_tell 63 = .ok (.ireturn, 1) := by decide +kernel
theorem dX8_tellOn_0 : decode cX8_tellOn 0 = .ok (.iload_n 1, 1) := by decide +kernel
theorem dX8_tellOn_1 : decode cX8_tellOn 1 = .ok (.tableswitch 98 5 9 #[35, 42, 57, 72, 85], 35) := by decide +kernel
theorem dX8_tellOn_36 : decode cX8_tellOn 36 = .ok (.aload_n 0, 1) := by decide +kernel
theorem dX8_tellOn_37 : decode cX8_tellOn 37 = .ok (.iload_n 2, 1) := by decide +kernel
theorem dX8_tellOn_38 : decode cX8_tellOn 38 = .ok (.aload_n 3, 1) := by decide +kernel
theorem dX8_tellOn_39 : decode cX8_tellOn 39 = .ok (.invokevirtual 49, 3) := by decide +kernel
theorem dX8_tellOn_42 : decode cX8_tellOn 42 = .ok (.ireturn, 1) := by decide +kernel
theorem dX8_tellOn_43 : decode cX8_tellOn 43 = .ok (.aload_n 0, 1) := by decide +kernel
theorem dX8_tellOn_44 : decode cX8_tellOn 44 = .ok (.iload_n 2, 1) := by decide +kernel
theorem dX8_tellOn_45 : decode cX8_tellOn 45 = .ok (.aload_n 3, 1) := by decide +kernel
theorem dX8_tellOn_46 : decode cX8_tellOn 46 = .ok (.invokevirtual 53, 3) := by decide +kernel
theorem dX8_tellOn_49 : decode cX8_tellOn 49 = .ok (.ifCond .eq 7, 3) := by decide +kernel
theorem dX8_tellOn_52 : decode cX8_tellOn 52 = .ok (.iconst 1, 1) := by decide +kernel
theorem dX8_tellOn_53 : decode cX8_tellOn 53 = .ok (.goto 4, 3) := by decide +kernel
theorem dX8_tellOn_56 : decode cX8_tellOn 56 = .ok (.iconst 0, 1) := by decide +kernel
theorem dX8_tellOn_57 : decode cX8_tellOn 57 = .ok (.ireturn, 1) := by decide +kernel
theorem dX8_tellOn_58 : decode cX8_tellOn 58 = .ok (.aload_n 0, 1) := by decide +kernel
theorem dX8_tellOn_59 : decode cX8_tellOn 59 = .ok (.iload_n 2, 1) := by decide +kernel
theorem dX8_tellOn_60 : decode cX8_tellOn 60 = .ok (.aload_n 3, 1) := by decide +kernel
theorem dX8_tellOn_61 : decode cX8_tellOn 61 = .ok (.invokevirtual 72, 3) := by decide +kernel
theorem dX8_tellOn_64 : decode cX8_tellOn 64 = .ok (.ifCond .eq 7, 3) := by decide +kernel
theorem dX8_tellOn_67 : decode cX8_tellOn 67 = .ok (.iconst 1, 1) := by decide +kernel
theorem dX8_tellOn_68 : decode cX8_tellOn 68 = .ok (.goto 4, 3) := by decide +kernel
theorem dX8_tellOn_71 : decode cX8_tellOn 71 = .ok (.iconst 0, 1) := by decide +kernel
theorem dX8_tellOn_72 : decode cX8_tellOn 72 = .ok (.ireturn, 1) := by decide +kernel
theorem dX8_tellOn_73 : decode cX8_tellOn 73 = .ok (.aload_n 0, 1) := by decide +kernel
theorem dX8_tellOn_74 : decode cX8_tellOn 74 = .ok (.invokevirtual 60, 3) := by decide +kernel
theorem dX8_tellOn_77 : decode cX8_tellOn 77 = .ok (.ifCond .eq 7, 3) := by decide +kernel
theorem dX8_tellOn_80 : decode cX8_tellOn 80 = .ok (.iconst 1, 1) := by decide +kernel
theorem dX8_tellOn_81 : decode cX8_tellOn 81 = .ok (.goto 4, 3) := by decide +kernel
theorem dX8_tellOn_84 : decode cX8_tellOn 84 = .ok (.iconst 0, 1) := by decide +kernel
theorem dX8_tellOn_85 : decode cX8_tellOn 85 = .ok (.ireturn, 1) := by decide +kernel
theorem dX8_tellOn_86 : decode cX8_tellOn 86 = .ok (.aload_n 0, 1) := by decide +kernel
theorem dX8_tellOn_87 : decode cX8_tellOn 87 = .ok (.getfield 32, 3) := by decide +kernel
theorem dX8_tellOn_90 : decode cX8_tellOn 90 = .ok (.ifCond .eq 7, 3) := by decide +kernel
theorem dX8_tellOn_93 : decode cX8_tellOn 93 = .ok (.iconst 1, 1) := by decide +kernel
theorem dX8_tellOn_94 : decode cX8_tellOn 94 = .ok (.goto 4, 3) := by decide +kernel
theorem dX8_tellOn_97 : decode cX8_tellOn 97 = .ok (.iconst 0, 1) := by decide +kernel
theorem dX8_tellOn_98 : decode cX8_tellOn 98 = .ok (.ireturn, 1) := by decide +kernel
theorem dX8_tellOn_99 : decode cX8_tellOn 99 = .ok (.bipush (-2), 2) := by decide +kernel
theorem dX8_tellOn_101 : decode cX8_tellOn 101 = .ok (.ireturn, 1) := by decide +kernel
theorem dX8_comesBack_0 : decode cX8_comesBack 0 = .ok (.aload_n 0, 1) := by decide +kernel
theorem dX8_comesBack_1 : decode cX8_comesBack 1 = .ok (.invokevirtual 60, 3) := by decide +kernel
theorem dX8_comesBack_4 : decode cX8_comesBack 4 = .ok (.ifCond .ne 11, 3) := by decide +kernel
theorem dX8_comesBack_7 : decode cX8_comesBack 7 = .ok (.aload_n 0, 1) := by decide +kernel
theorem dX8_comesBack_8 : decode cX8_comesBack 8 = .ok (.getfield 36, 3) := by decide +kernel
theorem dX8_comesBack_11 : decode cX8_comesBack 11 = .ok (.iconst 2, 1) := by decide +kernel
theorem dX8_comesBack_12 : decode cX8_comesBack 12 = .ok (.if_icmp .lt 5, 3) := by decide +kernel
theorem dX8_comesBack_15 : decode cX8_comesBack 15 = .ok (.iconst 0, 1) := by decide +kernel
theorem dX8_comesBack_16 : decode cX8_comesBack 16 = .ok (.ireturn, 1) := by decide +kernel
theorem dX8_comesBack_17 : decode cX8_comesBack 17 = .ok (.aload_n 0, 1) := by decide +kernel
theorem dX8_comesBack_18 : decode cX8_comesBack 18 = .ok (.dup, 1) := by decide +kernel
theorem dX8_comesBack_19 : decode cX8_comesBack 19 = .ok (.getfield 36, 3) := by decide +kernel
theorem dX8_comesBack_22 : decode cX8_comesBack 22 = .ok (.iconst 1, 1) := by decide +kernel
theorem dX8_comesBack_23 : decode cX8_comesBack 23 = .ok (.iadd, 1) := by decide +kernel
theorem dX8_comesBack_24 : decode cX8_comesBack 24 = .ok (.putfield 36, 3) := by decide +kernel
theorem dX8_comesBack_27 : decode cX8_comesBack 27 = .ok (.iconst 1, 1) := by decide +kernel
theorem dX8_comesBack_28 : decode cX8_comesBack 28 = .ok (.ireturn, 1) := by decide +kernel
theorem dX8_boundedStrength_0 : decode cX8_boundedStrength 0 = .ok (.ldc2_w 100, 3) := by decide +kernel
theorem dX8_boundedStrength_3 : decode cX8_boundedStrength 3 = .ok (.ldc2_w 102, 3) := by decide +kernel
theorem dX8_boundedStrength_6 : decode cX8_boundedStrength 6 = .ok (.lload_n 0, 1) := by decide +kernel
theorem dX8_boundedStrength_7 : decode cX8_boundedStrength 7 = .ok (.invokestatic 104, 3) := by decide +kernel
theorem dX8_boundedStrength_10 : decode cX8_boundedStrength 10 = .ok (.invokestatic 107, 3) := by decide +kernel
theorem dX8_boundedStrength_13 : decode cX8_boundedStrength 13 = .ok (.l2i, 1) := by decide +kernel
theorem dX8_boundedStrength_14 : decode cX8_boundedStrength 14 = .ok (.ireturn, 1) := by decide +kernel
theorem dX8_boundedEase_0 : decode cX8_boundedEase 0 = .ok (.sipush 1300, 3) := by decide +kernel
theorem dX8_boundedEase_3 : decode cX8_boundedEase 3 = .ok (.sipush 3500, 3) := by decide +kernel
theorem dX8_boundedEase_6 : decode cX8_boundedEase 6 = .ok (.iload_n 0, 1) := by decide +kernel
theorem dX8_boundedEase_7 : decode cX8_boundedEase 7 = .ok (.invokestatic 92, 3) := by decide +kernel
theorem dX8_boundedEase_10 : decode cX8_boundedEase 10 = .ok (.invokestatic 66, 3) := by decide +kernel
theorem dX8_boundedEase_13 : decode cX8_boundedEase 13 = .ok (.ireturn, 1) := by decide +kernel
theorem dX8_moveByStrengths_0 : decode cX8_moveByStrengths 0 = .ok (.aload_n 0, 1) := by decide +kernel
theorem dX8_moveByStrengths_1 : decode cX8_moveByStrengths 1 = .ok (.getfield 23, 3) := by decide +kernel
theorem dX8_moveByStrengths_4 : decode cX8_moveByStrengths 4 = .ok (.i2l, 1) := by decide +kernel
theorem dX8_moveByStrengths_5 : decode cX8_moveByStrengths 5 = .ok (.sipush 1000, 3) := by decide +kernel
theorem dX8_moveByStrengths_8 : decode cX8_moveByStrengths 8 = .ok (.aload_n 0, 1) := by decide +kernel
theorem dX8_moveByStrengths_9 : decode cX8_moveByStrengths 9 = .ok (.getfield 9, 3) := by decide +kernel
theorem dX8_moveByStrengths_12 : decode cX8_moveByStrengths 12 = .ok (.sipush 1000, 3) := by decide +kernel
theorem dX8_moveByStrengths_15 : decode cX8_moveByStrengths 15 = .ok (.isub, 1) := by decide +kernel
theorem dX8_moveByStrengths_16 : decode cX8_moveByStrengths 16 = .ok (.sipush 1900, 3) := by decide +kernel
theorem dX8_moveByStrengths_19 : decode cX8_moveByStrengths 19 = .ok (.iload_n 2, 1) := by decide +kernel
theorem dX8_moveByStrengths_20 : decode cX8_moveByStrengths 20 = .ok (.isub, 1) := by decide +kernel
theorem dX8_moveByStrengths_21 : decode cX8_moveByStrengths 21 = .ok (.imul, 1) := by decide +kernel
theorem dX8_moveByStrengths_22 : decode cX8_moveByStrengths 22 = .ok (.sipush 1000, 3) := by decide +kernel
theorem dX8_moveByStrengths_25 : decode cX8_moveByStrengths 25 = .ok (.idiv, 1) := by decide +kernel
theorem dX8_moveByStrengths_26 : decode cX8_moveByStrengths 26 = .ok (.iadd, 1) := by decide +kernel
theorem dX8_moveByStrengths_27 : decode cX8_moveByStrengths 27 = .ok (.i2l, 1) := by decide +kernel
theorem dX8_moveByStrengths_28 : decode cX8_moveByStrengths 28 = .ok (.lmul, 1) := by decide +kernel
theorem dX8_moveByStrengths_29 : decode cX8_moveByStrengths 29 = .ok (.ldc2_w 86, 3) := by decide +kernel
theorem dX8_moveByStrengths_32 : decode cX8_moveByStrengths 32 = .ok (.ldiv, 1) := by decide +kernel
theorem dX8_moveByStrengths_33 : decode cX8_moveByStrengths 33 = .ok (.lstore_n 3, 1) := by decide +kernel
theorem dX8_moveByStrengths_34 : decode cX8_moveByStrengths 34 = .ok (.iload_n 1, 1) := by decide +kernel
theorem dX8_moveByStrengths_35 : decode cX8_moveByStrengths 35 = .ok (.ifCond .ne 35, 3) := by decide +kernel
theorem dX8_moveByStrengths_38 : decode cX8_moveByStrengths 38 = .ok (.aload_n 0, 1) := by decide +kernel
theorem dX8_moveByStrengths_39 : decode cX8_moveByStrengths 39 = .ok (.aload_n 0, 1) := by decide +kernel
theorem dX8_moveByStrengths_40 : decode cX8_moveByStrengths 40 = .ok (.getfield 23, 3) := by decide +kernel
theorem dX8_moveByStrengths_43 : decode cX8_moveByStrengths 43 = .ok (.iconst 5, 1) := by decide +kernel
theorem dX8_moveByStrengths_44 : decode cX8_moveByStrengths 44 = .ok (.idiv, 1) := by decide +kernel
theorem dX8_moveByStrengths_45 : decode cX8_moveByStrengths 45 = .ok (.i2l, 1) := by decide +kernel
theorem dX8_moveByStrengths_46 : decode cX8_moveByStrengths 46 = .ok (.invokestatic 88, 3) := by decide +kernel
theorem dX8_moveByStrengths_49 : decode cX8_moveByStrengths 49 = .ok (.putfield 23, 3) := by decide +kernel
theorem dX8_moveByStrengths_52 : decode cX8_moveByStrengths 52 = .ok (.aload_n 0, 1) := by decide +kernel
theorem dX8_moveByStrengths_53 : decode cX8_moveByStrengths 53 = .ok (.aload_n 0, 1) := by decide +kernel
theorem dX8_moveByStrengths_54 : decode cX8_moveByStrengths 54 = .ok (.getfield 9, 3) := by decide +kernel
theorem dX8_moveByStrengths_57 : decode cX8_moveByStrengths 57 = .ok (.sipush 200, 3) := by decide +kernel
theorem dX8_moveByStrengths_60 : decode cX8_moveByStrengths 60 = .ok (.isub, 1) := by decide +kernel
theorem dX8_moveByStrengths_61 : decode cX8_moveByStrengths 61 = .ok (.invokestatic 95, 3) := by decide +kernel
theorem dX8_moveByStrengths_64 : decode cX8_moveByStrengths 64 = .ok (.putfield 9, 3) := by decide +kernel
theorem dX8_moveByStrengths_67 : decode cX8_moveByStrengths 67 = .ok (.goto 100, 3) := by decide +kernel
theorem dX8_moveByStrengths_70 : decode cX8_moveByStrengths 70 = .ok (.iload_n 1, 1) := by decide +kernel
theorem dX8_moveByStrengths_71 : decode cX8_moveByStrengths 71 = .ok (.iconst 1, 1) := by decide +kernel
theorem dX8_moveByStrengths_72 : decode cX8_moveByStrengths 72 = .ok (.if_icmp .ne 48, 3) := by decide +kernel
theorem dX8_moveByStrengths_75 : decode cX8_moveByStrengths 75 = .ok (.aload_n 0, 1) := by decide +kernel
theorem dX8_moveByStrengths_76 : decode cX8_moveByStrengths 76 = .ok (.aload_n 0, 1) := by decide +kernel
theorem dX8_moveByStrengths_77 : decode cX8_moveByStrengths 77 = .ok (.getfield 23, 3) := by decide +kernel
theorem dX8_moveByStrengths_80 : decode cX8_moveByStrengths 80 = .ok (.i2l, 1) := by decide +kernel
theorem dX8_moveByStrengths_81 : decode cX8_moveByStrengths 81 = .ok (.sipush 1000, 3) := by decide +kernel
theorem dX8_moveByStrengths_84 : decode cX8_moveByStrengths 84 = .ok (.sipush 1200, 3) := by decide +kernel
theorem dX8_moveByStrengths_87 : decode cX8_moveByStrengths 87 = .ok (.iload_n 2, 1) := by decide +kernel
theorem dX8_moveByStrengths_88 : decode cX8_moveByStrengths 88 = .ok (.isub, 1) := by decide +kernel
theorem dX8_moveByStrengths_89 : decode cX8_moveByStrengths 89 = .ok (.iadd, 1) := by decide +kernel
theorem dX8_moveByStrengths_90 : decode cX8_moveByStrengths 90 = .ok (.i2l, 1) := by decide +kernel
theorem dX8_moveByStrengths_91 : decode cX8_moveByStrengths 91 = .ok (.lmul, 1) := by decide +kernel
theorem dX8_moveByStrengths_92 : decode cX8_moveByStrengths 92 = .ok (.ldc2_w 86, 3) := by decide +kernel
theorem dX8_moveByStrengths_95 : decode cX8_moveByStrengths 95 = .ok (.ldiv, 1) := by decide +kernel
theorem dX8_moveByStrengths_96 : decode cX8_moveByStrengths 96 = .ok (.invokestatic 88, 3) := by decide +kernel
theorem dX8_moveByStrengths_99 : decode cX8_moveByStrengths 99 = .ok (.putfield 23, 3) := by decide +kernel
theorem dX8_moveByStrengths_102 : decode cX8_moveByStrengths 102 = .ok (.aload_n 0, 1) := by decide +kernel
theorem dX8_moveByStrengths_103 : decode cX8_moveByStrengths 103 = .ok (.aload_n 0, 1) := by decide +kernel
theorem dX8_moveByStrengths_104 : decode cX8_moveByStrengths 104 = .ok (.getfield 9, 3) := by decide +kernel
theorem dX8_moveByStrengths_107 : decode cX8_moveByStrengths 107 = .ok (.sipush 150, 3) := by decide +kernel
theorem dX8_moveByStrengths_110 : decode cX8_moveByStrengths 110 = .ok (.isub, 1) := by decide +kernel
theorem dX8_moveByStrengths_111 : decode cX8_moveByStrengths 111 = .ok (.invokestatic 95, 3) := by decide +kernel
theorem dX8_moveByStrengths_114 : decode cX8_moveByStrengths 114 = .ok (.putfield 9, 3) := by decide +kernel
theorem dX8_moveByStrengths_117 : decode cX8_moveByStrengths 117 = .ok (.goto 50, 3) := by decide +kernel
theorem dX8_moveByStrengths_120 : decode cX8_moveByStrengths 120 = .ok (.iload_n 1, 1) := by decide +kernel
theorem dX8_moveByStrengths_121 : decode cX8_moveByStrengths 121 = .ok (.iconst 2, 1) := by decide +kernel
theorem dX8_moveByStrengths_122 : decode cX8_moveByStrengths 122 = .ok (.if_icmp .ne 14, 3) := by decide +kernel
theorem dX8_moveByStrengths_125 : decode cX8_moveByStrengths 125 = .ok (.aload_n 0, 1) := by decide +kernel
theorem dX8_moveByStrengths_126 : decode cX8_moveByStrengths 126 = .ok (.lload_n 3, 1) := by decide +kernel
theorem dX8_moveByStrengths_127 : decode cX8_moveByStrengths 127 = .ok (.invokestatic 88, 3) := by decide +kernel
theorem dX8_moveByStrengths_130 : decode cX8_moveByStrengths 130 = .ok (.putfield 23, 3) := by decide +kernel
theorem dX8_moveByStrengths_133 : decode cX8_moveByStrengths 133 = .ok (.goto 34, 3) := by decide +kernel
theorem dX8_moveByStrengths_136 : decode cX8_moveByStrengths 136 = .ok (.aload_n 0, 1) := by decide +kernel
theorem dX8_moveByStrengths_137 : decode cX8_moveByStrengths 137 = .ok (.lload_n 3, 1) := by decide +kernel
theorem dX8_moveByStrengths_138 : decode cX8_moveByStrengths 138 = .ok (.ldc2_w 98, 3) := by decide +kernel
theorem dX8_moveByStrengths_141 : decode cX8_moveByStrengths 141 = .ok (.lmul, 1) := by decide +kernel
theorem dX8_moveByStrengths_142 : decode cX8_moveByStrengths 142 = .ok (.ldc2_w 86, 3) := by decide +kernel
theorem dX8_moveByStrengths_145 : decode cX8_moveByStrengths 145 = .ok (.ldiv, 1) := by decide +kernel
theorem dX8_moveByStrengths_146 : decode cX8_moveByStrengths 146 = .ok (.invokestatic 88, 3) := by decide +kernel
theorem dX8_moveByStrengths_149 : decode cX8_moveByStrengths 149 = .ok (.putfield 23, 3) := by decide +kernel
theorem dX8_moveByStrengths_152 : decode cX8_moveByStrengths 152 = .ok (.aload_n 0, 1) := by decide +kernel
theorem dX8_moveByStrengths_153 : decode cX8_moveByStrengths 153 = .ok (.aload_n 0, 1) := by decide +kernel
theorem dX8_moveByStrengths_154 : decode cX8_moveByStrengths 154 = .ok (.getfield 9, 3) := by decide +kernel
theorem dX8_moveByStrengths_157 : decode cX8_moveByStrengths 157 = .ok (.sipush 150, 3) := by decide +kernel
theorem dX8_moveByStrengths_160 : decode cX8_moveByStrengths 160 = .ok (.iadd, 1) := by decide +kernel
theorem dX8_moveByStrengths_161 : decode cX8_moveByStrengths 161 = .ok (.invokestatic 95, 3) := by decide +kernel
theorem dX8_moveByStrengths_164 : decode cX8_moveByStrengths 164 = .ok (.putfield 9, 3) := by decide +kernel
theorem dX8_moveByStrengths_167 : decode cX8_moveByStrengths 167 = .ok (.return_, 1) := by decide +kernel
theorem dX8_firstStrength_0 : decode cX8_firstStrength 0 = .ok (.iload_n 0, 1) := by decide +kernel
theorem dX8_firstStrength_1 : decode cX8_firstStrength 1 = .ok (.tableswitch 39 0 2 #[27, 31, 35], 27) := by decide +kernel
theorem dX8_firstStrength_28 : decode cX8_firstStrength 28 = .ok (.sipush 500, 3) := by decide +kernel
theorem dX8_firstStrength_31 : decode cX8_firstStrength 31 = .ok (.ireturn, 1) := by decide +kernel
theorem dX8_firstStrength_32 : decode cX8_firstStrength 32 = .ok (.sipush 1000, 3) := by decide +kernel
theorem dX8_firstStrength_35 : decode cX8_firstStrength 35 = .ok (.ireturn, 1) := by decide +kernel
theorem dX8_firstStrength_36 : decode cX8_firstStrength 36 = .ok (.sipush 2500, 3) := by decide +kernel
theorem dX8_firstStrength_39 : decode cX8_firstStrength 39 = .ok (.ireturn, 1) := by decide +kernel
theorem dX8_firstStrength_40 : decode cX8_firstStrength 40 = .ok (.sipush 6000, 3) := by decide +kernel
theorem dX8_firstStrength_43 : decode cX8_firstStrength 43 = .ok (.ireturn, 1) := by decide +kernel
theorem dX8_moveByBoxes_0 : decode cX8_moveByBoxes 0 = .ok (.iload_n 1, 1) := by decide +kernel
theorem dX8_moveByBoxes_1 : decode cX8_moveByBoxes 1 = .ok (.ifCond .ne 11, 3) := by decide +kernel
theorem dX8_moveByBoxes_4 : decode cX8_moveByBoxes 4 = .ok (.aload_n 0, 1) := by decide +kernel
theorem dX8_moveByBoxes_5 : decode cX8_moveByBoxes 5 = .ok (.iconst 0, 1) := by decide +kernel
theorem dX8_moveByBoxes_6 : decode cX8_moveByBoxes 6 = .ok (.putfield 26, 3) := by decide +kernel
theorem dX8_moveByBoxes_9 : decode cX8_moveByBoxes 9 = .ok (.goto 20, 3) := by decide +kernel
theorem dX8_moveByBoxes_12 : decode cX8_moveByBoxes 12 = .ok (.aload_n 0, 1) := by decide +kernel
theorem dX8_moveByBoxes_13 : decode cX8_moveByBoxes 13 = .ok (.bipush 9, 2) := by decide +kernel
theorem dX8_moveByBoxes_15 : decode cX8_moveByBoxes 15 = .ok (.aload_n 0, 1) := by decide +kernel
theorem dX8_moveByBoxes_16 : decode cX8_moveByBoxes 16 = .ok (.getfield 26, 3) := by decide +kernel
theorem dX8_moveByBoxes_19 : decode cX8_moveByBoxes 19 = .ok (.iload_n 1, 1) := by decide +kernel
theorem dX8_moveByBoxes_20 : decode cX8_moveByBoxes 20 = .ok (.iadd, 1) := by decide +kernel
theorem dX8_moveByBoxes_21 : decode cX8_moveByBoxes 21 = .ok (.iconst 1, 1) := by decide +kernel
theorem dX8_moveByBoxes_22 : decode cX8_moveByBoxes 22 = .ok (.isub, 1) := by decide +kernel
theorem dX8_moveByBoxes_23 : decode cX8_moveByBoxes 23 = .ok (.invokestatic 92, 3) := by decide +kernel
theorem dX8_moveByBoxes_26 : decode cX8_moveByBoxes 26 = .ok (.putfield 26, 3) := by decide +kernel
theorem dX8_moveByBoxes_29 : decode cX8_moveByBoxes 29 = .ok (.aload_n 0, 1) := by decide +kernel
theorem dX8_moveByBoxes_30 : decode cX8_moveByBoxes 30 = .ok (.sipush 1000, 3) := by decide +kernel
theorem dX8_moveByBoxes_33 : decode cX8_moveByBoxes 33 = .ok (.aload_n 0, 1) := by decide +kernel
theorem dX8_moveByBoxes_34 : decode cX8_moveByBoxes 34 = .ok (.getfield 26, 3) := by decide +kernel
theorem dX8_moveByBoxes_37 : decode cX8_moveByBoxes 37 = .ok (.ishl, 1) := by decide +kernel
theorem dX8_moveByBoxes_38 : decode cX8_moveByBoxes 38 = .ok (.putfield 23, 3) := by decide +kernel
theorem dX8_moveByBoxes_41 : decode cX8_moveByBoxes 41 = .ok (.return_, 1) := by decide +kernel
theorem dX8_move_0 : decode cX8_move 0 = .ok (.iload_n 1, 1) := by decide +kernel
theorem dX8_move_1 : decode cX8_move 1 = .ok (.ifCond .ne 11, 3) := by decide +kernel
theorem dX8_move_4 : decode cX8_move 4 = .ok (.aload_n 0, 1) := by decide +kernel
theorem dX8_move_5 : decode cX8_move 5 = .ok (.iload_n 2, 1) := by decide +kernel
theorem dX8_move_6 : decode cX8_move 6 = .ok (.invokevirtual 75, 3) := by decide +kernel
theorem dX8_move_9 : decode cX8_move 9 = .ok (.goto 61, 3) := by decide +kernel
theorem dX8_move_12 : decode cX8_move 12 = .ok (.aload_n 0, 1) := by decide +kernel
theorem dX8_move_13 : decode cX8_move 13 = .ok (.invokevirtual 57, 3) := by decide +kernel
theorem dX8_move_16 : decode cX8_move 16 = .ok (.ifCond .eq 14, 3) := by decide +kernel
theorem dX8_move_19 : decode cX8_move 19 = .ok (.aload_n 0, 1) := by decide +kernel
theorem dX8_move_20 : decode cX8_move 20 = .ok (.iload_n 2, 1) := by decide +kernel
theorem dX8_move_21 : decode cX8_move 21 = .ok (.invokestatic 79, 3) := by decide +kernel
theorem dX8_move_24 : decode cX8_move 24 = .ok (.putfield 23, 3) := by decide +kernel
theorem dX8_move_27 : decode cX8_move 27 = .ok (.goto 43, 3) := by decide +kernel
theorem dX8_move_30 : decode cX8_move 30 = .ok (.iload_n 1, 1) := by decide +kernel
theorem dX8_move_31 : decode cX8_move 31 = .ok (.iconst 1, 1) := by decide +kernel
theorem dX8_move_32 : decode cX8_move 32 = .ok (.if_icmp .ne 19, 3) := by decide +kernel
theorem dX8_move_35 : decode cX8_move 35 = .ok (.aload_n 0, 1) := by decide +kernel
theorem dX8_move_36 : decode cX8_move 36 = .ok (.iload_n 2, 1) := by decide +kernel
theorem dX8_move_37 : decode cX8_move 37 = .ok (.aload_n 0, 1) := by decide +kernel
theorem dX8_move_38 : decode cX8_move 38 = .ok (.iload 4, 2) := by decide +kernel
theorem dX8_move_40 : decode cX8_move 40 = .ok (.aload 5, 2) := by decide +kernel
theorem dX8_move_42 : decode cX8_move 42 = .ok (.invokevirtual 49, 3) := by decide +kernel
theorem dX8_move_45 : decode cX8_move 45 = .ok (.invokevirtual 82, 3) := by decide +kernel
theorem dX8_move_48 : decode cX8_move 48 = .ok (.goto 22, 3) := by decide +kernel
theorem dX8_move_51 : decode cX8_move 51 = .ok (.aload_n 0, 1) := by decide +kernel
theorem dX8_move_52 : decode cX8_move 52 = .ok (.aload_n 0, 1) := by decide +kernel
theorem dX8_move_53 : decode cX8_move 53 = .ok (.getfield 23, 3) := by decide +kernel
theorem dX8_move_56 : decode cX8_move 56 = .ok (.i2l, 1) := by decide +kernel
theorem dX8_move_57 : decode cX8_move 57 = .ok (.iload_n 3, 1) := by decide +kernel
theorem dX8_move_58 : decode cX8_move 58 = .ok (.i2l, 1) := by decide +kernel
theorem dX8_move_59 : decode cX8_move 59 = .ok (.lmul, 1) := by decide +kernel
theorem dX8_move_60 : decode cX8_move 60 = .ok (.ldc2_w 86, 3) := by decide +kernel
theorem dX8_move_63 : decode cX8_move 63 = .ok (.ldiv, 1) := by decide +kernel
theorem dX8_move_64 : decode cX8_move 64 = .ok (.invokestatic 88, 3) := by decide +kernel
theorem dX8_move_67 : decode cX8_move 67 = .ok (.putfield 23, 3) := by decide +kernel
theorem dX8_move_70 : decode cX8_move 70 = .ok (.iload_n 2, 1) := by decide +kernel
theorem dX8_move_71 : decode cX8_move 71 = .ok (.ifCond .ne 13, 3) := by decide +kernel
theorem dX8_move_74 : decode cX8_move 74 = .ok (.aload_n 0, 1) := by decide +kernel
theorem dX8_move_75 : decode cX8_move 75 = .ok (.dup, 1) := by decide +kernel
theorem dX8_move_76 : decode cX8_move 76 = .ok (.getfield 29, 3) := by decide +kernel
theorem dX8_move_79 : decode cX8_move 79 = .ok (.iconst 1, 1) := by decide +kernel
theorem dX8_move_80 : decode cX8_move 80 = .ok (.iadd, 1) := by decide +kernel
theorem dX8_move_81 : decode cX8_move 81 = .ok (.putfield 29, 3) := by decide +kernel
theorem dX8_move_84 : decode cX8_move 84 = .ok (.aload_n 0, 1) := by decide +kernel
theorem dX8_move_85 : decode cX8_move 85 = .ok (.iload 4, 2) := by decide +kernel
theorem dX8_move_87 : decode cX8_move 87 = .ok (.putfield 15, 3) := by decide +kernel
theorem dX8_move_90 : decode cX8_move 90 = .ok (.return_, 1) := by decide +kernel
theorem dX9_init_0 : decode cX9_init 0 = .ok (.aload_n 0, 1) := by decide +kernel
theorem dX9_init_1 : decode cX9_init 1 = .ok (.invokespecial 3, 3) := by decide +kernel
theorem dX9_init_4 : decode cX9_init 4 = .ok (.aload_n 0, 1) := by decide +kernel
theorem dX9_init_5 : decode cX9_init 5 = .ok (.new 9, 3) := by decide +kernel
theorem dX9_init_8 : decode cX9_init 8 = .ok (.dup, 1) := by decide +kernel
theorem dX9_init_9 : decode cX9_init 9 = .ok (.invokespecial 11, 3) := by decide +kernel
theorem dX9_init_12 : decode cX9_init 12 = .ok (.putfield 12, 3) := by decide +kernel
theorem dX9_init_15 : decode cX9_init 15 = .ok (.aload_n 0, 1) := by decide +kernel
theorem dX9_init_16 : decode cX9_init 16 = .ok (.new 16, 3) := by decide +kernel
theorem dX9_init_19 : decode cX9_init 19 = .ok (.dup, 1) := by decide +kernel
theorem dX9_init_20 : decode cX9_init 20 = .ok (.invokespecial 18, 3) := by decide +kernel
theorem dX9_init_23 : decode cX9_init 23 = .ok (.putfield 19, 3) := by decide +kernel
theorem dX9_init_26 : decode cX9_init 26 = .ok (.aload_n 0, 1) := by decide +kernel
theorem dX9_init_27 : decode cX9_init 27 = .ok (.iconst 4, 1) := by decide +kernel
theorem dX9_init_28 : decode cX9_init 28 = .ok (.anewarray 23, 3) := by decide +kernel
theorem dX9_init_31 : decode cX9_init 31 = .ok (.putfield 25, 3) := by decide +kernel
theorem dX9_init_34 : decode cX9_init 34 = .ok (.aload_n 0, 1) := by decide +kernel
theorem dX9_init_35 : decode cX9_init 35 = .ok (.new 23, 3) := by decide +kernel
theorem dX9_init_38 : decode cX9_init 38 = .ok (.dup, 1) := by decide +kernel
theorem dX9_init_39 : decode cX9_init 39 = .ok (.invokespecial 29, 3) := by decide +kernel
theorem dX9_init_42 : decode cX9_init 42 = .ok (.putfield 30, 3) := by decide +kernel
theorem dX9_init_45 : decode cX9_init 45 = .ok (.aload_n 0, 1) := by decide +kernel
theorem dX9_init_46 : decode cX9_init 46 = .ok (.new 34, 3) := by decide +kernel
theorem dX9_init_49 : decode cX9_init 49 = .ok (.dup, 1) := by decide +kernel
theorem dX9_init_50 : decode cX9_init 50 = .ok (.invokespecial 36, 3) := by decide +kernel
theorem dX9_init_53 : decode cX9_init 53 = .ok (.putfield 37, 3) := by decide +kernel
theorem dX9_init_56 : decode cX9_init 56 = .ok (.aload_n 0, 1) := by decide +kernel
theorem dX9_init_57 : decode cX9_init 57 = .ok (.new 41, 3) := by decide +kernel
theorem dX9_init_60 : decode cX9_init 60 = .ok (.dup, 1) := by decide +kernel
theorem dX9_init_61 : decode cX9_init 61 = .ok (.invokespecial 43, 3) := by decide +kernel
theorem dX9_init_64 : decode cX9_init 64 = .ok (.putfield 44, 3) := by decide +kernel
theorem dX9_init_67 : decode cX9_init 67 = .ok (.aload_n 0, 1) := by decide +kernel
theorem dX9_init_68 : decode cX9_init 68 = .ok (.new 48, 3) := by decide +kernel
theorem dX9_init_71 : decode cX9_init 71 = .ok (.dup, 1) := by decide +kernel
theorem dX9_init_72 : decode cX9_init 72 = .ok (.invokespecial 50, 3) := by decide +kernel
theorem dX9_init_75 : decode cX9_init 75 = .ok (.putfield 51, 3) := by decide +kernel
theorem dX9_init_78 : decode cX9_init 78 = .ok (.aload_n 0, 1) := by decide +kernel
theorem dX9_init_79 : decode cX9_init 79 = .ok (.iconst 4, 1) := by decide +kernel
theorem dX9_init_80 : decode cX9_init 80 = .ok (.newarray .int, 2) := by decide +kernel
theorem dX9_init_82 : decode cX9_init 82 = .ok (.dup, 1) := by decide +kernel
theorem dX9_init_83 : decode cX9_init 83 = .ok (.iconst 0, 1) := by decide +kernel
theorem dX9_init_84 : decode cX9_init 84 = .ok (.sipush 200, 3) := by decide +kernel
theorem dX9_init_87 : decode cX9_init 87 = .ok (.iastore, 1) := by decide +kernel
theorem dX9_init_88 : decode cX9_init 88 = .ok (.dup, 1) := by decide +kernel
theorem dX9_init_89 : decode cX9_init 89 = .ok (.iconst 1, 1) := by decide +kernel
theorem dX9_init_90 : decode cX9_init 90 = .ok (.sipush 1000, 3) := by decide +kernel
theorem dX9_init_93 : decode cX9_init 93 = .ok (.iastore, 1) := by decide +kernel
theorem dX9_init_94 : decode cX9_init 94 = .ok (.dup, 1) := by decide +kernel
theorem dX9_init_95 : decode cX9_init 95 = .ok (.iconst 2, 1) := by decide +kernel
theorem dX9_init_96 : decode cX9_init 96 = .ok (.sipush 2000, 3) := by decide +kernel
theorem dX9_init_99 : decode cX9_init 99 = .ok (.iastore, 1) := by decide +kernel
theorem dX9_init_100 : decode cX9_init 100 = .ok (.dup, 1) := by decide +kernel
theorem dX9_init_101 : decode cX9_init 101 = .ok (.iconst 3, 1) := by decide +kernel
theorem dX9_init_102 : decode cX9_init 102 = .ok (.sipush 3000, 3) := by decide +kernel
theorem dX9_init_105 : decode cX9_init 105 = .ok (.iastore, 1) := by decide +kernel
theorem dX9_init_106 : decode cX9_init 106 = .ok (.putfield 55, 3) := by decide +kernel
theorem dX9_init_109 : decode cX9_init 109 = .ok (.aload_n 0, 1) := by decide +kernel
theorem dX9_init_110 : decode cX9_init 110 = .ok (.iconst 0, 1) := by decide +kernel
theorem dX9_init_111 : decode cX9_init 111 = .ok (.putfield 59, 3) := by decide +kernel
theorem dX9_init_114 : decode cX9_init 114 = .ok (.aload_n 0, 1) := by decide +kernel
theorem dX9_init_115 : decode cX9_init 115 = .ok (.bipush 60, 2) := by decide +kernel
theorem dX9_init_117 : decode cX9_init 117 = .ok (.putfield 63, 3) := by decide +kernel
theorem dX9_init_120 : decode cX9_init 120 = .ok (.aload_n 0, 1) := by decide +kernel
theorem dX9_init_121 : decode cX9_init 121 = .ok (.bipush 10, 2) := by decide +kernel
theorem dX9_init_123 : decode cX9_init 123 = .ok (.putfield 66, 3) := by decide +kernel
theorem dX9_init_126 : decode cX9_init 126 = .ok (.iconst 0, 1) := by decide +kernel
theorem dX9_init_127 : decode cX9_init 127 = .ok (.istore_n 1, 1) := by decide +kernel
theorem dX9_init_128 : decode cX9_init 128 = .ok (.iload_n 1, 1) := by decide +kernel
theorem dX9_init_129 : decode cX9_init 129 = .ok (.aload_n 0, 1) := by decide +kernel
theorem dX9_init_130 : decode cX9_init 130 = .ok (.getfield 25, 3) := by decide +kernel
theorem dX9_init_133 : decode cX9_init 133 = .ok (.arraylength, 1) := by decide +kernel
theorem dX9_init_134 : decode cX9_init 134 = .ok (.if_icmp .ge 22, 3) := by decide +kernel
theorem dX9_init_137 : decode cX9_init 137 = .ok (.aload_n 0, 1) := by decide +kernel
theorem dX9_init_138 : decode cX9_init 138 = .ok (.getfield 25, 3) := by decide +kernel
theorem dX9_init_141 : decode cX9_init 141 = .ok (.iload_n 1, 1) := by decide +kernel
theorem dX9_init_142 : decode cX9_init 142 = .ok (.new 23, 3) := by decide +kernel
theorem dX9_init_145 : decode cX9_init 145 = .ok (.dup, 1) := by decide +kernel
theorem dX9_init_146 : decode cX9_init 146 = .ok (.invokespecial 29, 3) := by decide +kernel
theorem dX9_init_149 : decode cX9_init 149 = .ok (.aastore, 1) := by decide +kernel
theorem dX9_init_150 : decode cX9_init 150 = .ok (.iinc 1 1, 3) := by decide +kernel
theorem dX9_init_153 : decode cX9_init 153 = .ok (.goto (-25), 3) := by decide +kernel
theorem dX9_init_156 : decode cX9_init 156 = .ok (.return_, 1) := by decide +kernel
theorem dX9_card_0 : decode cX9_card 0 = .ok (.iload_n 1, 1) := by decide +kernel
theorem dX9_card_1 : decode cX9_card 1 = .ok (.iconst 1, 1) := by decide +kernel
theorem dX9_card_2 : decode cX9_card 2 = .ok (.if_icmp .lt 8, 3) := by decide +kernel
theorem dX9_card_5 : decode cX9_card 5 = .ok (.iload_n 1, 1) := by decide +kernel
theorem dX9_card_6 : decode cX9_card 6 = .ok (.iconst 4, 1) := by decide +kernel
theorem dX9_card_7 : decode cX9_card 7 = .ok (.if_icmp .le 5, 3) := by decide +kernel
theorem dX9_card_10 : decode cX9_card 10 = .ok (.iconst (-1), 1) := by decide +kernel
theorem dX9_card_11 : decode cX9_card 11 = .ok (.ireturn, 1) := by decide +kernel
theorem dX9_card_12 : decode cX9_card 12 = .ok (.aload_n 0, 1) := by decide +kernel
theorem dX9_card_13 : decode cX9_card 13 = .ok (.getfield 19, 3) := by decide +kernel
theorem dX9_card_16 : decode cX9_card 16 = .ok (.invokevirtual 69, 3) := by decide +kernel
theorem dX9_card_19 : decode cX9_card 19 = .ok (.bipush 120, 2) := by decide +kernel
theorem dX9_card_21 : decode cX9_card 21 = .ok (.if_icmp .lt 6, 3) := by decide +kernel
theorem dX9_card_24 : decode cX9_card 24 = .ok (.bipush (-2), 2) := by decide +kernel
theorem dX9_card_26 : decode cX9_card 26 = .ok (.ireturn, 1) := by decide +kernel
theorem dX9_card_27 : decode cX9_card 27 = .ok (.iconst 0, 1) := by decide +kernel
theorem dX9_card_28 : decode cX9_card 28 = .ok (.istore_n 2, 1) := by decide +kernel
theorem dX9_card_29 : decode cX9_card 29 = .ok (.iload_n 2, 1) := by decide +kernel
theorem dX9_card_30 : decode cX9_card 30 = .ok (.aload_n 0, 1) := by decide +kernel
theorem dX9_card_31 : decode cX9_card 31 = .ok (.getfield 25, 3) := by decide +kernel
theorem dX9_card_34 : decode cX9_card 34 = .ok (.arraylength, 1) := by decide +kernel
theorem dX9_card_35 : decode cX9_card 35 = .ok (.if_icmp .ge 19, 3) := by decide +kernel
theorem dX9_card_38 : decode cX9_card 38 = .ok (.aload_n 0, 1) := by decide +kernel
theorem dX9_card_39 : decode cX9_card 39 = .ok (.getfield 25, 3) := by decide +kernel
theorem dX9_card_42 : decode cX9_card 42 = .ok (.iload_n 2, 1) := by decide +kernel
theorem dX9_card_43 : decode cX9_card 43 = .ok (.aaload, 1) := by decide +kernel
theorem dX9_card_44 : decode cX9_card 44 = .ok (.iload_n 1, 1) := by decide +kernel
theorem dX9_card_45 : decode cX9_card 45 = .ok (.invokevirtual 73, 3) := by decide +kernel
theorem dX9_card_48 : decode cX9_card 48 = .ok (.iinc 2 1, 3) := by decide +kernel
theorem dX9_card_51 : decode cX9_card 51 = .ok (.goto (-22), 3) := by decide +kernel
theorem dX9_card_54 : decode cX9_card 54 = .ok (.aload_n 0, 1) := by decide +kernel
theorem dX9_card_55 : decode cX9_card 55 = .ok (.getfield 30, 3) := by decide +kernel
theorem dX9_card_58 : decode cX9_card 58 = .ok (.iload_n 1, 1) := by decide +kernel
theorem dX9_card_59 : decode cX9_card 59 = .ok (.invokevirtual 73, 3) := by decide +kernel
theorem dX9_card_62 : decode cX9_card 62 = .ok (.aload_n 0, 1) := by decide +kernel
theorem dX9_card_63 : decode cX9_card 63 = .ok (.getfield 19, 3) := by decide +kernel
theorem dX9_card_66 : decode cX9_card 66 = .ok (.invokevirtual 77, 3) := by decide +kernel
theorem dX9_card_69 : decode cX9_card 69 = .ok (.ireturn, 1) := by decide +kernel
theorem dX9_lean_0 : decode cX9_lean 0 = .ok (.aload_n 0, 1) := by decide +kernel
theorem dX9_lean_1 : decode cX9_lean 1 = .ok (.getfield 19, 3) := by decide +kernel
theorem dX9_lean_4 : decode cX9_lean 4 = .ok (.iload_n 1, 1) := by decide +kernel
theorem dX9_lean_5 : decode cX9_lean 5 = .ok (.invokevirtual 79, 3) := by decide +kernel
theorem dX9_lean_8 : decode cX9_lean 8 = .ok (.astore_n 3, 1) := by decide +kernel
theorem dX9_lean_9 : decode cX9_lean 9 = .ok (.aload_n 3, 1) := by decide +kernel
theorem dX9_lean_10 : decode cX9_lean 10 = .ok (.ifnull 27, 3) := by decide +kernel
theorem dX9_lean_13 : decode cX9_lean 13 = .ok (.aload_n 0, 1) := by decide +kernel
theorem dX9_lean_14 : decode cX9_lean 14 = .ok (.getfield 19, 3) := by decide +kernel
theorem dX9_lean_17 : decode cX9_lean 17 = .ok (.iload_n 2, 1) := by decide +kernel
theorem dX9_lean_18 : decode cX9_lean 18 = .ok (.invokevirtual 79, 3) := by decide +kernel
theorem dX9_lean_21 : decode cX9_lean 21 = .ok (.ifnull 16, 3) := by decide +kernel
theorem dX9_lean_24 : decode cX9_lean 24 = .ok (.iload_n 1, 1) := by decide +kernel
theorem dX9_lean_25 : decode cX9_lean 25 = .ok (.iload_n 2, 1) := by decide +kernel
theorem dX9_lean_26 : decode cX9_lean 26 = .ok (.if_icmp .eq 11, 3) := by decide +kernel
theorem dX9_lean_29 : decode cX9_lean 29 = .ok (.aload_n 3, 1) := by decide +kernel
theorem dX9_lean_30 : decode cX9_lean 30 = .ok (.iload_n 2, 1) := by decide +kernel
theorem dX9_lean_31 : decode cX9_lean 31 = .ok (.invokevirtual 83, 3) := by decide +kernel
theorem dX9_lean_34 : decode cX9_lean 34 = .ok (.ifCond .eq 5, 3) := by decide +kernel
theorem dX9_lean_37 : decode cX9_lean 37 = .ok (.iconst (-1), 1) := by decide +kernel
theorem dX9_lean_38 : decode cX9_lean 38 = .ok (.ireturn, 1) := by decide +kernel
theorem dX9_lean_39 : decode cX9_lean 39 = .ok (.aload_n 0, 1) := by decide +kernel
theorem dX9_lean_40 : decode cX9_lean 40 = .ok (.getfield 19, 3) := by decide +kernel
theorem dX9_lean_43 : decode cX9_lean 43 = .ok (.iload_n 2, 1) := by decide +kernel
theorem dX9_lean_44 : decode cX9_lean 44 = .ok (.iload_n 1, 1) := by decide +kernel
theorem dX9_lean_45 : decode cX9_lean 45 = .ok (.invokevirtual 89, 3) := by decide +kernel
theorem dX9_lean_48 : decode cX9_lean 48 = .ok (.ifCond .eq 6, 3) := by decide +kernel
theorem dX9_lean_51 : decode cX9_lean 51 = .ok (.bipush (-3), 2) := by decide +kernel
theorem dX9_lean_53 : decode cX9_lean 53 = .ok (.ireturn, 1) := by decide +kernel
theorem dX9_lean_54 : decode cX9_lean 54 = .ok (.aload_n 3, 1) := by decide +kernel
theorem dX9_lean_55 : decode cX9_lean 55 = .ok (.iload_n 2, 1) := by decide +kernel
theorem dX9_lean_56 : decode cX9_lean 56 = .ok (.invokevirtual 93, 3) := by decide +kernel
theorem dX9_lean_59 : decode cX9_lean 59 = .ok (.ireturn, 1) := by decide +kernel
theorem dX9_isRule_0 : decode cX9_isRule 0 = .ok (.iload_n 0, 1) := by decide +kernel
theorem dX9_isRule_1 : decode cX9_isRule 1 = .ok (.ifCond .lt 12, 3) := by decide +kernel
theorem dX9_isRule_4 : decode cX9_isRule 4 = .ok (.iload_n 0, 1) := by decide +kernel
theorem dX9_isRule_5 : decode cX9_isRule 5 = .ok (.iconst 2, 1) := by decide +kernel
theorem dX9_isRule_6 : decode cX9_isRule 6 = .ok (.if_icmp .gt 7, 3) := by decide +kernel
theorem dX9_isRule_9 : decode cX9_isRule 9 = .ok (.iconst 1, 1) := by decide +kernel
theorem dX9_isRule_10 : decode cX9_isRule 10 = .ok (.goto 4, 3) := by decide +kernel
theorem dX9_isRule_13 : decode cX9_isRule 13 = .ok (.iconst 0, 1) := by decide +kernel
theorem dX9_isRule_14 : decode cX9_isRule 14 = .ok (.ireturn, 1) := by decide +kernel
theorem dX9_rule_0 : decode cX9_rule 0 = .ok (.iload_n 1, 1) := by decide +kernel
theorem dX9_rule_1 : decode cX9_rule 1 = .ok (.invokestatic 97, 3) := by decide +kernel
theorem dX9_rule_4 : decode cX9_rule 4 = .ok (.ifCond .ne 5, 3) := by decide +kernel
theorem dX9_rule_7 : decode cX9_rule 7 = .ok (.iconst (-1), 1) := by decide +kernel
theorem dX9_rule_8 : decode cX9_rule 8 = .ok (.ireturn, 1) := by decide +kernel
theorem dX9_rule_9 : decode cX9_rule 9 = .ok (.aload_n 0, 1) := by decide +kernel
theorem dX9_rule_10 : decode cX9_rule 10 = .ok (.getfield 59, 3) := by decide +kernel
theorem dX9_rule_13 : decode cX9_rule 13 = .ok (.istore_n 2, 1) := by decide +kernel
theorem dX9_rule_14 : decode cX9_rule 14 = .ok (.aload_n 0, 1) := by decide +kernel
theorem dX9_rule_15 : decode cX9_rule 15 = .ok (.iload_n 1, 1) := by decide +kernel
theorem dX9_rule_16 : decode cX9_rule 16 = .ok (.putfield 59, 3) := by decide +kernel
theorem dX9_rule_19 : decode cX9_rule 19 = .ok (.iload_n 2, 1) := by decide +kernel
theorem dX9_rule_20 : decode cX9_rule 20 = .ok (.ireturn, 1) := by decide +kernel
theorem dX9_isAnswer_0 : decode cX9_isAnswer 0 = .ok (.iload_n 0, 1) := by decide +kernel
theorem dX9_isAnswer_1 : decode cX9_isAnswer 1 = .ok (.ifCond .lt 12, 3) := by decide +kernel
theorem dX9_isAnswer_4 : decode cX9_isAnswer 4 = .ok (.iload_n 0, 1) := by decide +kernel
theorem dX9_isAnswer_5 : decode cX9_isAnswer 5 = .ok (.iconst 3, 1) := by decide +kernel
theorem dX9_isAnswer_6 : decode cX9_isAnswer 6 = .ok (.if_icmp .gt 7, 3) := by decide +kernel
theorem dX9_isAnswer_9 : decode cX9_isAnswer 9 = .ok (.iconst 1, 1) := by decide +kernel
theorem dX9_isAnswer_10 : decode cX9_isAnswer 10 = .ok (.goto 4, 3) := by decide +kernel
theorem dX9_isAnswer_13 : decode cX9_isAnswer 13 = .ok (.iconst 0, 1) := by decide +kernel
theorem dX9_isAnswer_14 : decode cX9_isAnswer 14 = .ok (.ireturn, 1) := by decide +kernel
theorem dX9_table_0 : decode cX9_table 0 = .ok (.iload_n 1, 1) := by decide +kernel
theorem dX9_table_1 : decode cX9_table 1 = .ok (.invokestatic 100, 3) := by decide +kernel
theorem dX9_table_4 : decode cX9_table 4 = .ok (.ifCond .eq 14, 3) := by decide +kernel
theorem dX9_table_7 : decode cX9_table 7 = .ok (.iload_n 2, 1) := by decide +kernel
theorem dX9_table_8 : decode cX9_table 8 = .ok (.iconst 1, 1) := by decide +kernel
theorem dX9_table_9 : decode cX9_table 9 = .ok (.if_icmp .lt 9, 3) := by decide +kernel
theorem dX9_table_12 : decode cX9_table 12 = .ok (.iload_n 2, 1) := by decide +kernel
theorem dX9_table_13 : decode cX9_table 13 = .ok (.ldc 103, 2) := by decide +kernel
theorem dX9_table_15 : decode cX9_table 15 = .ok (.if_icmp .le 5, 3) := by decide +kernel
theorem dX9_table_18 : decode cX9_table 18 = .ok (.iconst (-1), 1) := by decide +kernel
theorem dX9_table_19 : decode cX9_table 19 = .ok (.ireturn, 1) := by decide +kernel
theorem dX9_table_20 : decode cX9_table 20 = .ok (.aload_n 0, 1) := by decide +kernel
theorem dX9_table_21 : decode cX9_table 21 = .ok (.getfield 55, 3) := by decide +kernel
theorem dX9_table_24 : decode cX9_table 24 = .ok (.iload_n 1, 1) := by decide +kernel
theorem dX9_table_25 : decode cX9_table 25 = .ok (.iaload, 1) := by decide +kernel
theorem dX9_table_26 : decode cX9_table 26 = .ok (.istore_n 3, 1) := by decide +kernel
theorem dX9_table_27 : decode cX9_table 27 = .ok (.aload_n 0, 1) := by decide +kernel
theorem dX9_table_28 : decode cX9_table 28 = .ok (.getfield 55, 3) := by decide +kernel
theorem dX9_table_31 : decode cX9_table 31 = .ok (.iload_n 1, 1) := by decide +kernel
theorem dX9_table_32 : decode cX9_table 32 = .ok (.iload_n 2, 1) := by decide +kernel
theorem dX9_table_33 : decode cX9_table 33 = .ok (.iastore, 1) := by decide +kernel
theorem dX9_table_34 : decode cX9_table 34 = .ok (.iload_n 3, 1) := by decide +kernel
theorem dX9_table_35 : decode cX9_table 35 = .ok (.ireturn, 1) := by decide +kernel
theorem dX9_most_0 : decode cX9_most 0 = .ok (.iload_n 1, 1) := by decide +kernel
theorem dX9_most_1 : decode cX9_most 1 = .ok (.ifCond .lt 20, 3) := by decide +kernel
theorem dX9_most_4 : decode cX9_most 4 = .ok (.iload_n 1, 1) := by decide +kernel
theorem dX9_most_5 : decode cX9_most 5 = .ok (.sipush 400, 3) := by decide +kernel
theorem dX9_most_8 : decode cX9_most 8 = .ok (.if_icmp .gt 13, 3) := by decide +kernel
theorem dX9_most_11 : decode cX9_most 11 = .ok (.iload_n 2, 1) := by decide +kernel
theorem dX9_most_12 : decode cX9_most 12 = .ok (.ifCond .lt 9, 3) := by decide +kernel
theorem dX9_most_15 : decode cX9_most 15 = .ok (.iload_n 2, 1) := by decide +kernel
theorem dX9_most_16 : decode cX9_most 16 = .ok (.bipush 100, 2) := by decide +kernel
theorem dX9_most_18 : decode cX9_most 18 = .ok (.if_icmp .le 5, 3) := by decide +kernel
theorem dX9_most_21 : decode cX9_most 21 = .ok (.iconst (-1), 1) := by decide +kernel
theorem dX9_most_22 : decode cX9_most 22 = .ok (.ireturn, 1) := by decide +kernel
theorem dX9_most_23 : decode cX9_most 23 = .ok (.aload_n 0, 1) := by decide +kernel
theorem dX9_most_24 : decode cX9_most 24 = .ok (.iload_n 1, 1) := by decide +kernel
theorem dX9_most_25 : decode cX9_most 25 = .ok (.putfield 63, 3) := by decide +kernel
theorem dX9_most_28 : decode cX9_most 28 = .ok (.aload_n 0, 1) := by decide +kernel
theorem dX9_most_29 : decode cX9_most 29 = .ok (.iload_n 2, 1) := by decide +kernel
theorem dX9_most_30 : decode cX9_most 30 = .ok (.putfield 66, 3) := by decide +kernel
theorem dX9_most_33 : decode cX9_most 33 = .ok (.iconst 1, 1) := by decide +kernel
theorem dX9_most_34 : decode cX9_most 34 = .ok (.ireturn, 1) := by decide +kernel
theorem dX9_learnerAt_0 : decode cX9_learnerAt 0 = .ok (.iload_n 1, 1) := by decide +kernel
theorem dX9_learnerAt_1 : decode cX9_learnerAt 1 = .ok (.ifCond .lt 12, 3) := by decide +kernel
theorem dX9_learnerAt_4 : decode cX9_learnerAt 4 = .ok (.iload_n 1, 1) := by decide +kernel
theorem dX9_learnerAt_5 : decode cX9_learnerAt 5 = .ok (.aload_n 0, 1) := by decide +kernel
theorem dX9_learnerAt_6 : decode cX9_learnerAt 6 = .ok (.getfield 25, 3) := by decide +kernel
theorem dX9_learnerAt_9 : decode cX9_learnerAt 9 = .ok (.arraylength, 1) := by decide +kernel
theorem dX9_learnerAt_10 : decode cX9_learnerAt 10 = .ok (.if_icmp .lt 7, 3) := by decide +kernel
theorem dX9_learnerAt_13 : decode cX9_learnerAt 13 = .ok (.aconst_null, 1) := by decide +kernel
theorem dX9_learnerAt_14 : decode cX9_learnerAt 14 = .ok (.goto 9, 3) := by decide +kernel
theorem dX9_learnerAt_17 : decode cX9_learnerAt 17 = .ok (.aload_n 0, 1) := by decide +kernel
theorem dX9_learnerAt_18 : decode cX9_learnerAt 18 = .ok (.getfield 25, 3) := by decide +kernel
theorem dX9_learnerAt_21 : decode cX9_learnerAt 21 = .ok (.iload_n 1, 1) := by decide +kernel
theorem dX9_learnerAt_22 : decode cX9_learnerAt 22 = .ok (.aaload, 1) := by decide +kernel
theorem dX9_learnerAt_23 : decode cX9_learnerAt 23 = .ok (.areturn, 1) := by decide +kernel
theorem dX9_day_0 : decode cX9_day 0 = .ok (.aload_n 0, 1) := by decide +kernel
theorem dX9_day_1 : decode cX9_day 1 = .ok (.iload_n 1, 1) := by decide +kernel
theorem dX9_day_2 : decode cX9_day 2 = .ok (.invokevirtual 104, 3) := by decide +kernel
theorem dX9_day_5 : decode cX9_day 5 = .ok (.astore_n 3, 1) := by decide +kernel
theorem dX9_day_6 : decode cX9_day 6 = .ok (.aload_n 3, 1) := by decide +kernel
theorem dX9_day_7 : decode cX9_day 7 = .ok (.ifnull 26, 3) := by decide +kernel
theorem dX9_day_10 : decode cX9_day 10 = .ok (.iload_n 2, 1) := by decide +kernel
theorem dX9_day_11 : decode cX9_day 11 = .ok (.iconst 1, 1) := by decide +kernel
theorem dX9_day_12 : decode cX9_day 12 = .ok (.if_icmp .lt 21, 3) := by decide +kernel
theorem dX9_day_15 : decode cX9_day 15 = .ok (.iload_n 2, 1) := by decide +kernel
theorem dX9_day_16 : decode cX9_day 16 = .ok (.sipush 1000, 3) := by decide +kernel
theorem dX9_day_19 : decode cX9_day 19 = .ok (.if_icmp .gt 14, 3) := by decide +kernel
theorem dX9_day_22 : decode cX9_day 22 = .ok (.aload_n 3, 1) := by decide +kernel
theorem dX9_day_23 : decode cX9_day 23 = .ok (.getfield 108, 3) := by decide +kernel
theorem dX9_day_26 : decode cX9_day 26 = .ok (.iload_n 2, 1) := by decide +kernel
theorem dX9_day_27 : decode cX9_day 27 = .ok (.iadd, 1) := by decide +kernel
theorem dX9_day_28 : decode cX9_day 28 = .ok (.ldc 103, 2) := by decide +kernel
theorem dX9_day_30 : decode cX9_day 30 = .ok (.if_icmp .le 5, 3) := by decide +kernel
theorem dX9_day_33 : decode cX9_day 33 = .ok (.iconst (-1), 1) := by decide +kernel
theorem dX9_day_34 : decode cX9_day 34 = .ok (.ireturn, 1) := by decide +kernel
theorem dX9_day_35 : decode cX9_day 35 = .ok (.aload_n 3, 1) := by decide +kernel
theorem dX9_day_36 : decode cX9_day 36 = .ok (.aload_n 3, 1) := by decide +kernel
theorem dX9_day_37 : decode cX9_day 37 = .ok (.getfield 108, 3) := by decide +kernel
theorem dX9_day_40 : decode cX9_day 40 = .ok (.iload_n 2, 1) := by decide +kernel
theorem dX9_day_41 : decode cX9_day 41 = .ok (.iadd, 1) := by decide +kernel
theorem dX9_day_42 : decode cX9_day 42 = .ok (.invokevirtual 111, 3) := by decide +kernel
theorem dX9_day_45 : decode cX9_day 45 = .ok (.aload_n 3, 1) := by decide +kernel
theorem dX9_day_46 : decode cX9_day 46 = .ok (.getfield 108, 3) := by decide +kernel
theorem dX9_day_49 : decode cX9_day 49 = .ok (.ireturn, 1) := by decide +kernel
theorem dX9_start_0 : decode cX9_start 0 = .ok (.aload_n 0, 1) := by decide +kernel
theorem dX9_start_1 : decode cX9_start 1 = .ok (.iload_n 1, 1) := by decide +kernel
theorem dX9_start_2 : decode cX9_start 2 = .ok (.invokevirtual 104, 3) := by decide +kernel
theorem dX9_start_5 : decode cX9_start 5 = .ok (.astore_n 2, 1) := by decide +kernel
theorem dX9_start_6 : decode cX9_start 6 = .ok (.aload_n 2, 1) := by decide +kernel
theorem dX9_start_7 : decode cX9_start 7 = .ok (.ifnonnull 5, 3) := by decide +kernel
theorem dX9_start_10 : decode cX9_start 10 = .ok (.iconst (-1), 1) := by decide +kernel
theorem dX9_start_11 : decode cX9_start 11 = .ok (.ireturn, 1) := by decide +kernel
theorem dX9_start_12 : decode cX9_start 12 = .ok (.aload_n 2, 1) := by decide +kernel
theorem dX9_start_13 : decode cX9_start 13 = .ok (.getfield 114, 3) := by decide +kernel
theorem dX9_start_16 : decode cX9_start 16 = .ok (.ifCond .le 6, 3) := by decide +kernel
theorem dX9_start_19 : decode cX9_start 19 = .ok (.bipush (-5), 2) := by decide +kernel
theorem dX9_start_21 : decode cX9_start 21 = .ok (.ireturn, 1) := by decide +kernel
theorem dX9_start_22 : decode cX9_start 22 = .ok (.aload_n 2, 1) := by decide +kernel
theorem dX9_start_23 : decode cX9_start 23 = .ok (.aload_n 0, 1) := by decide +kernel
theorem dX9_start_24 : decode cX9_start 24 = .ok (.getfield 63, 3) := by decide +kernel
theorem dX9_start_27 : decode cX9_start 27 = .ok (.aload_n 0, 1) := by decide +kernel
theorem dX9_start_28 : decode cX9_start 28 = .ok (.getfield 12, 3) := by decide +kernel
theorem dX9_start_31 : decode cX9_start 31 = .ok (.invokevirtual 117, 3) := by decide +kernel
theorem dX9_start_34 : decode cX9_start 34 = .ok (.aload_n 2, 1) := by decide +kernel
theorem dX9_start_35 : decode cX9_start 35 = .ok (.aload_n 0, 1) := by decide +kernel
theorem dX9_start_36 : decode cX9_start 36 = .ok (.getfield 66, 3) := by decide +kernel
theorem dX9_start_39 : decode cX9_start 39 = .ok (.aload_n 0, 1) := by decide +kernel
theorem dX9_start_40 : decode cX9_start 40 = .ok (.getfield 19, 3) := by decide +kernel
theorem dX9_start_43 : decode cX9_start 43 = .ok (.aload_n 0, 1) := by decide +kernel
theorem dX9_start_44 : decode cX9_start 44 = .ok (.getfield 12, 3) := by decide +kernel
theorem dX9_start_47 : decode cX9_start 47 = .ok (.invokevirtual 121, 3) := by decide +kernel
theorem dX9_start_50 : decode cX9_start 50 = .ok (.aload_n 2, 1) := by decide +kernel
theorem dX9_start_51 : decode cX9_start 51 = .ok (.getfield 114, 3) := by decide +kernel
theorem dX9_start_54 : decode cX9_start 54 = .ok (.ireturn, 1) := by decide +kernel
theorem dX9_next_0 : decode cX9_next 0 = .ok (.aload_n 0, 1) := by decide +kernel
theorem dX9_next_1 : decode cX9_next 1 = .ok (.iload_n 1, 1) := by decide +kernel
theorem dX9_next_2 : decode cX9_next 2 = .ok (.invokevirtual 104, 3) := by decide +kernel
theorem dX9_next_5 : decode cX9_next 5 = .ok (.astore_n 2, 1) := by decide +kernel
theorem dX9_next_6 : decode cX9_next 6 = .ok (.aload_n 2, 1) := by decide +kernel
theorem dX9_next_7 : decode cX9_next 7 = .ok (.ifnonnull 5, 3) := by decide +kernel
theorem dX9_next_10 : decode cX9_next 10 = .ok (.iconst (-1), 1) := by decide +kernel
theorem dX9_next_11 : decode cX9_next 11 = .ok (.ireturn, 1) := by decide +kernel
theorem dX9_next_12 : decode cX9_next 12 = .ok (.aload_n 2, 1) := by decide +kernel
theorem dX9_next_13 : decode cX9_next 13 = .ok (.getfield 114, 3) := by decide +kernel
theorem dX9_next_16 : decode cX9_next 16 = .ok (.ifCond .ne 8, 3) := by decide +kernel
theorem dX9_next_19 : decode cX9_next 19 = .ok (.bipush (-4), 2) := by decide +kernel
theorem dX9_next_21 : decode cX9_next 21 = .ok (.goto 7, 3) := by decide +kernel
theorem dX9_next_24 : decode cX9_next 24 = .ok (.aload_n 2, 1) := by decide +kernel
theorem dX9_next_25 : decode cX9_next 25 = .ok (.invokevirtual 125, 3) := by decide +kernel
theorem dX9_next_28 : decode cX9_next 28 = .ok (.ireturn, 1) := by decide +kernel
theorem dX9_answer_0 : decode cX9_answer 0 = .ok (.aload_n 0, 1) := by decide +kernel
theorem dX9_answer_1 : decode cX9_answer 1 = .ok (.iload_n 1, 1) := by decide +kernel
theorem dX9_answer_2 : decode cX9_answer 2 = .ok (.invokevirtual 104, 3) := by decide +kernel
theorem dX9_answer_5 : decode cX9_answer 5 = .ok (.astore_n 3, 1) := by decide +kernel
theorem dX9_answer_6 : decode cX9_answer 6 = .ok (.aload_n 3, 1) := by decide +kernel
theorem dX9_answer_7 : decode cX9_answer 7 = .ok (.ifnull 10, 3) := by decide +kernel
theorem dX9_answer_10 : decode cX9_answer 10 = .ok (.iload_n 2, 1) := by decide +kernel
theorem dX9_answer_11 : decode cX9_answer 11 = .ok (.invokestatic 100, 3) := by decide +kernel
theorem dX9_answer_14 : decode cX9_answer 14 = .ok (.ifCond .ne 5, 3) := by decide +kernel
theorem dX9_answer_17 : decode cX9_answer 17 = .ok (.iconst (-1), 1) := by decide +kernel
theorem dX9_answer_18 : decode cX9_answer 18 = .ok (.ireturn, 1) := by decide +kernel
theorem dX9_answer_19 : decode cX9_answer 19 = .ok (.aload_n 3, 1) := by decide +kernel
theorem dX9_answer_20 : decode cX9_answer 20 = .ok (.getfield 114, 3) := by decide +kernel
theorem dX9_answer_23 : decode cX9_answer 23 = .ok (.ifCond .ne 6, 3) := by decide +kernel
theorem dX9_answer_26 : decode cX9_answer 26 = .ok (.bipush (-4), 2) := by decide +kernel
theorem dX9_answer_28 : decode cX9_answer 28 = .ok (.ireturn, 1) := by decide +kernel
theorem dX9_answer_29 : decode cX9_answer 29 = .ok (.aload_n 0, 1) := by decide +kernel
theorem dX9_answer_30 : decode cX9_answer 30 = .ok (.getfield 37, 3) := by decide +kernel
theorem dX9_answer_33 : decode cX9_answer 33 = .ok (.invokevirtual 128, 3) := by decide +kernel
theorem dX9_answer_36 : decode cX9_answer 36 = .ok (.sipush 3000, 3) := by decide +kernel
theorem dX9_answer_39 : decode cX9_answer 39 = .ok (.if_icmp .lt 6, 3) := by decide +kernel
theorem dX9_answer_42 : decode cX9_answer 42 = .ok (.bipush (-2), 2) := by decide +kernel
theorem dX9_answer_44 : decode cX9_answer 44 = .ok (.ireturn, 1) := by decide +kernel
theorem dX9_answer_45 : decode cX9_answer 45 = .ok (.aload_n 3, 1) := by decide +kernel
theorem dX9_answer_46 : decode cX9_answer 46 = .ok (.invokevirtual 125, 3) := by decide +kernel
theorem dX9_answer_49 : decode cX9_answer 49 = .ok (.istore 4, 2) := by decide +kernel
theorem dX9_answer_51 : decode cX9_answer 51 = .ok (.aload_n 3, 1) := by decide +kernel
theorem dX9_answer_52 : decode cX9_answer 52 = .ok (.iload 4, 2) := by decide +kernel
theorem dX9_answer_54 : decode cX9_answer 54 = .ok (.invokevirtual 129, 3) := by decide +kernel
theorem dX9_answer_57 : decode cX9_answer 57 = .ok (.astore 5, 2) := by decide +kernel
theorem dX9_answer_59 : decode cX9_answer 59 = .ok (.aload_n 3, 1) := by decide +kernel
theorem dX9_answer_60 : decode cX9_answer 60 = .ok (.invokevirtual 133, 3) := by decide +kernel
theorem dX9_answer_63 : decode cX9_answer 63 = .ok (.aload 5, 2) := by decide +kernel
theorem dX9_answer_65 : decode cX9_answer 65 = .ok (.ifnull 83, 3) := by decide +kernel
theorem dX9_answer_68 : decode cX9_answer 68 = .ok (.aload_n 0, 1) := by decide +kernel
theorem dX9_answer_69 : decode cX9_answer 69 = .ok (.getfield 55, 3) := by decide +kernel
theorem dX9_answer_72 : decode cX9_answer 72 = .ok (.iload_n 2, 1) := by decide +kernel
theorem dX9_answer_73 : decode cX9_answer 73 = .ok (.iaload, 1) := by decide +kernel
theorem dX9_answer_74 : decode cX9_answer 74 = .ok (.istore 6, 2) := by decide +kernel
theorem dX9_answer_76 : decode cX9_answer 76 = .ok (.aload_n 0, 1) := by decide +kernel
theorem dX9_answer_77 : decode cX9_answer 77 = .ok (.getfield 37, 3) := by decide +kernel
theorem dX9_answer_80 : decode cX9_answer 80 = .ok (.new 136, 3) := by decide +kernel
theorem dX9_answer_83 : decode cX9_answer 83 = .ok (.dup, 1) := by decide +kernel
theorem dX9_answer_84 : decode cX9_answer 84 = .ok (.iload_n 1, 1) := by decide +kernel
theorem dX9_answer_85 : decode cX9_answer 85 = .ok (.iload 4, 2) := by decide +kernel
theorem dX9_answer_87 : decode cX9_answer 87 = .ok (.aload_n 3, 1) := by decide +kernel
theorem dX9_answer_88 : decode cX9_answer 88 = .ok (.getfield 108, 3) := by decide +kernel
theorem dX9_answer_91 : decode cX9_answer 91 = .ok (.iload_n 2, 1) := by decide +kernel
theorem dX9_answer_92 : decode cX9_answer 92 = .ok (.aload_n 0, 1) := by decide +kernel
theorem dX9_answer_93 : decode cX9_answer 93 = .ok (.getfield 59, 3) := by decide +kernel
theorem dX9_answer_96 : decode cX9_answer 96 = .ok (.iload 6, 2) := by decide +kernel
theorem dX9_answer_98 : decode cX9_answer 98 = .ok (.aload 5, 2) := by decide +kernel
theorem dX9_answer_100 : decode cX9_answer 100 = .ok (.invokevirtual 138, 3) := by decide +kernel
theorem dX9_answer_103 : decode cX9_answer 103 = .ok (.invokespecial 144, 3) := by decide +kernel
theorem dX9_answer_106 : decode cX9_answer 106 = .ok (.invokevirtual 147, 3) := by decide +kernel
theorem dX9_answer_109 : decode cX9_answer 109 = .ok (.pop, 1) := by decide +kernel
theorem dX9_answer_110 : decode cX9_answer 110 = .ok (.aload 5, 2) := by decide +kernel
theorem dX9_answer_112 : decode cX9_answer 112 = .ok (.aload_n 0, 1) := by decide +kernel
theorem dX9_answer_113 : decode cX9_answer 113 = .ok (.getfield 59, 3) := by decide +kernel
theorem dX9_answer_116 : decode cX9_answer 116 = .ok (.iload_n 2, 1) := by decide +kernel
theorem dX9_answer_117 : decode cX9_answer 117 = .ok (.iload 6, 2) := by decide +kernel
theorem dX9_answer_119 : decode cX9_answer 119 = .ok (.aload_n 3, 1) := by decide +kernel
theorem dX9_answer_120 : decode cX9_answer 120 = .ok (.getfield 108, 3) := by decide +kernel
theorem dX9_answer_123 : decode cX9_answer 123 = .ok (.aload_n 0, 1) := by decide +kernel
theorem dX9_answer_124 : decode cX9_answer 124 = .ok (.getfield 12, 3) := by decide +kernel
theorem dX9_answer_127 : decode cX9_answer 127 = .ok (.invokevirtual 151, 3) := by decide +kernel
theorem dX9_answer_130 : decode cX9_answer 130 = .ok (.iload_n 2, 1) := by decide +kernel
theorem dX9_answer_131 : decode cX9_answer 131 = .ok (.ifCond .ne 17, 3) := by decide +kernel
theorem dX9_answer_134 : decode cX9_answer 134 = .ok (.aload 5, 2) := by decide +kernel
theorem dX9_answer_136 : decode cX9_answer 136 = .ok (.invokevirtual 155, 3) := by decide +kernel
theorem dX9_answer_139 : decode cX9_answer 139 = .ok (.ifCond .eq 9, 3) := by decide +kernel
theorem dX9_answer_142 : decode cX9_answer 142 = .ok (.aload_n 3, 1) := by decide +kernel
theorem dX9_answer_143 : decode cX9_answer 143 = .ok (.iload 4, 2) := by decide +kernel
theorem dX9_answer_145 : decode cX9_answer 145 = .ok (.invokevirtual 159, 3) := by decide +kernel
theorem dX9_answer_148 : decode cX9_answer 148 = .ok (.aload_n 3, 1) := by decide +kernel
theorem dX9_answer_149 : decode cX9_answer 149 = .ok (.getfield 114, 3) := by decide +kernel
theorem dX9_answer_152 : decode cX9_answer 152 = .ok (.ireturn, 1) := by decide +kernel
theorem dX9_skip_0 : decode cX9_skip 0 = .ok (.aload_n 0, 1) := by decide +kernel
theorem dX9_skip_1 : decode cX9_skip 1 = .ok (.iload_n 1, 1) := by decide +kernel
theorem dX9_skip_2 : decode cX9_skip 2 = .ok (.invokevirtual 104, 3) := by decide +kernel
theorem dX9_skip_5 : decode cX9_skip 5 = .ok (.astore_n 2, 1) := by decide +kernel
theorem dX9_skip_6 : decode cX9_skip 6 = .ok (.aload_n 2, 1) := by decide +kernel
theorem dX9_skip_7 : decode cX9_skip 7 = .ok (.ifnonnull 5, 3) := by decide +kernel
theorem dX9_skip_10 : decode cX9_skip 10 = .ok (.iconst (-1), 1) := by decide +kernel
theorem dX9_skip_11 : decode cX9_skip 11 = .ok (.ireturn, 1) := by decide +kernel
theorem dX9_skip_12 : decode cX9_skip 12 = .ok (.aload_n 2, 1) := by decide +kernel
theorem dX9_skip_13 : decode cX9_skip 13 = .ok (.getfield 114, 3) := by decide +kernel
theorem dX9_skip_16 : decode cX9_skip 16 = .ok (.ifCond .ne 6, 3) := by decide +kernel
theorem dX9_skip_19 : decode cX9_skip 19 = .ok (.bipush (-4), 2) := by decide +kernel
theorem dX9_skip_21 : decode cX9_skip 21 = .ok (.ireturn, 1) := by decide +kernel
theorem dX9_skip_22 : decode cX9_skip 22 = .ok (.aload_n 2, 1) := by decide +kernel
theorem dX9_skip_23 : decode cX9_skip 23 = .ok (.invokevirtual 125, 3) := by decide +kernel
theorem dX9_skip_26 : decode cX9_skip 26 = .ok (.istore_n 3, 1) := by decide +kernel
theorem dX9_skip_27 : decode cX9_skip 27 = .ok (.aload_n 2, 1) := by decide +kernel
theorem dX9_skip_28 : decode cX9_skip 28 = .ok (.invokevirtual 133, 3) := by decide +kernel
theorem dX9_skip_31 : decode cX9_skip 31 = .ok (.aload_n 2, 1) := by decide +kernel
theorem dX9_skip_32 : decode cX9_skip 32 = .ok (.iload_n 3, 1) := by decide +kernel
theorem dX9_skip_33 : decode cX9_skip 33 = .ok (.invokevirtual 159, 3) := by decide +kernel
theorem dX9_skip_36 : decode cX9_skip 36 = .ok (.aload_n 2, 1) := by decide +kernel
theorem dX9_skip_37 : decode cX9_skip 37 = .ok (.getfield 114, 3) := by decide +kernel
theorem dX9_skip_40 : decode cX9_skip 40 = .ok (.ireturn, 1) := by decide +kernel
theorem dX9_memoryOf_0 : decode cX9_memoryOf 0 = .ok (.aload_n 0, 1) := by decide +kernel
theorem dX9_memoryOf_1 : decode cX9_memoryOf 1 = .ok (.iload_n 1, 1) := by decide +kernel
theorem dX9_memoryOf_2 : decode cX9_memoryOf 2 = .ok (.invokevirtual 104, 3) := by decide +kernel
theorem dX9_memoryOf_5 : decode cX9_memoryOf 5 = .ok (.astore 4, 2) := by decide +kernel
theorem dX9_memoryOf_7 : decode cX9_memoryOf 7 = .ok (.aload 4, 2) := by decide +kernel
theorem dX9_memoryOf_9 : decode cX9_memoryOf 9 = .ok (.ifnonnull 7, 3) := by decide +kernel
theorem dX9_memoryOf_12 : decode cX9_memoryOf 12 = .ok (.aconst_null, 1) := by decide +kernel
theorem dX9_memoryOf_13 : decode cX9_memoryOf 13 = .ok (.goto 10, 3) := by decide +kernel
theorem dX9_memoryOf_16 : decode cX9_memoryOf 16 = .ok (.aload 4, 2) := by decide +kernel
theorem dX9_memoryOf_18 : decode cX9_memoryOf 18 = .ok (.iload_n 2, 1) := by decide +kernel
theorem dX9_memoryOf_19 : decode cX9_memoryOf 19 = .ok (.iload_n 3, 1) := by decide +kernel
theorem dX9_memoryOf_20 : decode cX9_memoryOf 20 = .ok (.invokevirtual 229, 3) := by decide +kernel
theorem dX9_memoryOf_23 : decode cX9_memoryOf 23 = .ok (.areturn, 1) := by decide +kernel
theorem dX9_bury_0 : decode cX9_bury 0 = .ok (.aload_n 0, 1) := by decide +kernel
theorem dX9_bury_1 : decode cX9_bury 1 = .ok (.iload_n 1, 1) := by decide +kernel
theorem dX9_bury_2 : decode cX9_bury 2 = .ok (.invokevirtual 104, 3) := by decide +kernel
theorem dX9_bury_5 : decode cX9_bury 5 = .ok (.astore 4, 2) := by decide +kernel
theorem dX9_bury_7 : decode cX9_bury 7 = .ok (.aload_n 0, 1) := by decide +kernel
theorem dX9_bury_8 : decode cX9_bury 8 = .ok (.iload_n 1, 1) := by decide +kernel
theorem dX9_bury_9 : decode cX9_bury 9 = .ok (.iload_n 2, 1) := by decide +kernel
theorem dX9_bury_10 : decode cX9_bury 10 = .ok (.iload_n 3, 1) := by decide +kernel
theorem dX9_bury_11 : decode cX9_bury 11 = .ok (.invokevirtual 162, 3) := by decide +kernel
theorem dX9_bury_14 : decode cX9_bury 14 = .ok (.astore 5, 2) := by decide +kernel
theorem dX9_bury_16 : decode cX9_bury 16 = .ok (.aload 4, 2) := by decide +kernel
theorem dX9_bury_18 : decode cX9_bury 18 = .ok (.ifnull 16, 3) := by decide +kernel
theorem dX9_bury_21 : decode cX9_bury 21 = .ok (.aload 5, 2) := by decide +kernel
theorem dX9_bury_23 : decode cX9_bury 23 = .ok (.ifnull 11, 3) := by decide +kernel
theorem dX9_bury_26 : decode cX9_bury 26 = .ok (.aload 5, 2) := by decide +kernel
theorem dX9_bury_28 : decode cX9_bury 28 = .ok (.getfield 166, 3) := by decide +kernel
theorem dX9_bury_31 : decode cX9_bury 31 = .ok (.ifCond .eq 5, 3) := by decide +kernel
theorem dX9_bury_34 : decode cX9_bury 34 = .ok (.iconst (-1), 1) := by decide +kernel
theorem dX9_bury_35 : decode cX9_bury 35 = .ok (.ireturn, 1) := by decide +kernel
theorem dX9_bury_36 : decode cX9_bury 36 = .ok (.aload 5, 2) := by decide +kernel
theorem dX9_bury_38 : decode cX9_bury 38 = .ok (.iconst 1, 1) := by decide +kernel
theorem dX9_bury_39 : decode cX9_bury 39 = .ok (.putfield 166, 3) := by decide +kernel
theorem dX9_bury_42 : decode cX9_bury 42 = .ok (.aload 4, 2) := by decide +kernel
theorem dX9_bury_44 : decode cX9_bury 44 = .ok (.iload_n 2, 1) := by decide +kernel
theorem dX9_bury_45 : decode cX9_bury 45 = .ok (.iload_n 3, 1) := by decide +kernel
theorem dX9_bury_46 : decode cX9_bury 46 = .ok (.invokestatic 170, 3) := by decide +kernel
theorem dX9_bury_49 : decode cX9_bury 49 = .ok (.invokevirtual 174, 3) := by decide +kernel
theorem dX9_bury_52 : decode cX9_bury 52 = .ok (.aload 4, 2) := by decide +kernel
theorem dX9_bury_54 : decode cX9_bury 54 = .ok (.getfield 114, 3) := by decide +kernel
theorem dX9_bury_57 : decode cX9_bury 57 = .ok (.ireturn, 1) := by decide +kernel
theorem dX9_undo_0 : decode cX9_undo 0 = .ok (.aload_n 0, 1) := by decide +kernel
theorem dX9_undo_1 : decode cX9_undo 1 = .ok (.getfield 37, 3) := by decide +kernel
theorem dX9_undo_4 : decode cX9_undo 4 = .ok (.invokevirtual 177, 3) := by decide +kernel
theorem dX9_undo_7 : decode cX9_undo 7 = .ok (.ifCond .eq 6, 3) := by decide +kernel
theorem dX9_undo_10 : decode cX9_undo 10 = .ok (.bipush (-4), 2) := by decide +kernel
theorem dX9_undo_12 : decode cX9_undo 12 = .ok (.ireturn, 1) := by decide +kernel
theorem dX9_undo_13 : decode cX9_undo 13 = .ok (.aload_n 0, 1) := by decide +kernel
theorem dX9_undo_14 : decode cX9_undo 14 = .ok (.getfield 37, 3) := by decide +kernel
theorem dX9_undo_17 : decode cX9_undo 17 = .ok (.aload_n 0, 1) := by decide +kernel
theorem dX9_undo_18 : decode cX9_undo 18 = .ok (.getfield 37, 3) := by decide +kernel
theorem dX9_undo_21 : decode cX9_undo 21 = .ok (.invokevirtual 128, 3) := by decide +kernel
theorem dX9_undo_24 : decode cX9_undo 24 = .ok (.iconst 1, 1) := by decide +kernel
theorem dX9_undo_25 : decode cX9_undo 25 = .ok (.isub, 1) := by decide +kernel
theorem dX9_undo_26 : decode cX9_undo 26 = .ok (.invokevirtual 180, 3) := by decide +kernel
theorem dX9_undo_29 : decode cX9_undo 29 = .ok (.checkcast 136, 3) := by decide +kernel
theorem dX9_undo_32 : decode cX9_undo 32 = .ok (.astore_n 1, 1) := by decide +kernel
theorem dX9_undo_33 : decode cX9_undo 33 = .ok (.aload_n 0, 1) := by decide +kernel
theorem dX9_undo_34 : decode cX9_undo 34 = .ok (.aload_n 1, 1) := by decide +kernel
theorem dX9_undo_35 : decode cX9_undo 35 = .ok (.getfield 184, 3) := by decide +kernel
theorem dX9_undo_38 : decode cX9_undo 38 = .ok (.invokevirtual 104, 3) := by decide +kernel
theorem dX9_undo_41 : decode cX9_undo 41 = .ok (.astore_n 2, 1) := by decide +kernel
theorem dX9_undo_42 : decode cX9_undo 42 = .ok (.aload_n 2, 1) := by decide +kernel
theorem dX9_undo_43 : decode cX9_undo 43 = .ok (.ifnull 29, 3) := by decide +kernel
theorem dX9_undo_46 : decode cX9_undo 46 = .ok (.aload_n 2, 1) := by decide +kernel
theorem dX9_undo_47 : decode cX9_undo 47 = .ok (.aload_n 1, 1) := by decide +kernel
theorem dX9_undo_48 : decode cX9_undo 48 = .ok (.getfield 187, 3) := by decide +kernel
theorem dX9_undo_51 : decode cX9_undo 51 = .ok (.invokevirtual 129, 3) := by decide +kernel
theorem dX9_undo_54 : decode cX9_undo 54 = .ok (.astore_n 3, 1) := by decide +kernel
theorem dX9_undo_55 : decode cX9_undo 55 = .ok (.aload_n 3, 1) := by decide +kernel
theorem dX9_undo_56 : decode cX9_undo 56 = .ok (.ifnull 11, 3) := by decide +kernel
theorem dX9_undo_59 : decode cX9_undo 59 = .ok (.aload_n 3, 1) := by decide +kernel
theorem dX9_undo_60 : decode cX9_undo 60 = .ok (.aload_n 1, 1) := by decide +kernel
theorem dX9_undo_61 : decode cX9_undo 61 = .ok (.getfield 190, 3) := by decide +kernel
theorem dX9_undo_64 : decode cX9_undo 64 = .ok (.invokevirtual 194, 3) := by decide +kernel
theorem dX9_undo_67 : decode cX9_undo 67 = .ok (.aload_n 2, 1) := by decide +kernel
theorem dX9_undo_68 : decode cX9_undo 68 = .ok (.iconst 0, 1) := by decide +kernel
theorem dX9_undo_69 : decode cX9_undo 69 = .ok (.putfield 114, 3) := by decide +kernel
theorem dX9_undo_72 : decode cX9_undo 72 = .ok (.aload_n 0, 1) := by decide +kernel
theorem dX9_undo_73 : decode cX9_undo 73 = .ok (.getfield 37, 3) := by decide +kernel
theorem dX9_undo_76 : decode cX9_undo 76 = .ok (.invokevirtual 128, 3) := by decide +kernel
theorem dX9_undo_79 : decode cX9_undo 79 = .ok (.ireturn, 1) := by decide +kernel
theorem dX9_memory_0 : decode cX9_memory 0 = .ok (.aload_n 0, 1) := by decide +kernel
theorem dX9_memory_1 : decode cX9_memory 1 = .ok (.iload_n 1, 1) := by decide +kernel
theorem dX9_memory_2 : decode cX9_memory 2 = .ok (.invokevirtual 104, 3) := by decide +kernel
theorem dX9_memory_5 : decode cX9_memory 5 = .ok (.astore 5, 2) := by decide +kernel
theorem dX9_memory_7 : decode cX9_memory 7 = .ok (.aload_n 0, 1) := by decide +kernel
theorem dX9_memory_8 : decode cX9_memory 8 = .ok (.iload_n 1, 1) := by decide +kernel
theorem dX9_memory_9 : decode cX9_memory 9 = .ok (.iload_n 2, 1) := by decide +kernel
theorem dX9_memory_10 : decode cX9_memory 10 = .ok (.iload_n 3, 1) := by decide +kernel
theorem dX9_memory_11 : decode cX9_memory 11 = .ok (.invokevirtual 162, 3) := by decide +kernel
theorem dX9_memory_14 : decode cX9_memory 14 = .ok (.astore 6, 2) := by decide +kernel
theorem dX9_memory_16 : decode cX9_memory 16 = .ok (.aload 5, 2) := by decide +kernel
theorem dX9_memory_18 : decode cX9_memory 18 = .ok (.ifnull 20, 3) := by decide +kernel
theorem dX9_memory_21 : decode cX9_memory 21 = .ok (.aload 6, 2) := by decide +kernel
theorem dX9_memory_23 : decode cX9_memory 23 = .ok (.ifnull 15, 3) := by decide +kernel
theorem dX9_memory_26 : decode cX9_memory 26 = .ok (.iload 4, 2) := by decide +kernel
theorem dX9_memory_28 : decode cX9_memory 28 = .ok (.ifCond .lt 10, 3) := by decide +kernel
theorem dX9_memory_31 : decode cX9_memory 31 = .ok (.iload 4, 2) := by decide +kernel
theorem dX9_memory_33 : decode cX9_memory 33 = .ok (.bipush 9, 2) := by decide +kernel
theorem dX9_memory_35 : decode cX9_memory 35 = .ok (.if_icmp .le 6, 3) := by decide +kernel
theorem dX9_memory_38 : decode cX9_memory 38 = .ok (.bipush (-2), 2) := by decide +kernel
theorem dX9_memory_40 : decode cX9_memory 40 = .ok (.ireturn, 1) := by decide +kernel
theorem dX9_memory_41 : decode cX9_memory 41 = .ok (.iload 4, 2) := by decide +kernel
theorem dX9_memory_43 : decode cX9_memory 43 = .ok (.iconst 5, 1) := by decide +kernel
theorem dX9_memory_44 : decode cX9_memory 44 = .ok (.if_icmp .ge 13, 3) := by decide +kernel
theorem dX9_memory_47 : decode cX9_memory 47 = .ok (.aload 6, 2) := by decide +kernel
theorem dX9_memory_49 : decode cX9_memory 49 = .ok (.iload 4, 2) := by decide +kernel
theorem dX9_memory_51 : decode cX9_memory 51 = .ok (.invokevirtual 198, 3) := by decide +kernel
theorem dX9_memory_54 : decode cX9_memory 54 = .ok (.goto 19, 3) := by decide +kernel
theorem dX9_memory_57 : decode cX9_memory 57 = .ok (.aload 6, 2) := by decide +kernel
theorem dX9_memory_59 : decode cX9_memory 59 = .ok (.iload 4, 2) := by decide +kernel
theorem dX9_memory_61 : decode cX9_memory 61 = .ok (.aload 5, 2) := by decide +kernel
theorem dX9_memory_63 : decode cX9_memory 63 = .ok (.getfield 108, 3) := by decide +kernel
theorem dX9_memory_66 : decode cX9_memory 66 = .ok (.aload_n 0, 1) := by decide +kernel
theorem dX9_memory_67 : decode cX9_memory 67 = .ok (.getfield 12, 3) := by decide +kernel
theorem dX9_memory_70 : decode cX9_memory 70 = .ok (.invokevirtual 201, 3) := by decide +kernel
theorem dX9_memory_73 : decode cX9_memory 73 = .ok (.ireturn, 1) := by decide +kernel
theorem dX9_when_0 : decode cX9_when 0 = .ok (.aload_n 0, 1) := by decide +kernel
theorem dX9_when_1 : decode cX9_when 1 = .ok (.iload_n 1, 1) := by decide +kernel
theorem dX9_when_2 : decode cX9_when 2 = .ok (.invokevirtual 104, 3) := by decide +kernel
theorem dX9_when_5 : decode cX9_when 5 = .ok (.astore 4, 2) := by decide +kernel
theorem dX9_when_7 : decode cX9_when 7 = .ok (.aload_n 0, 1) := by decide +kernel
theorem dX9_when_8 : decode cX9_when 8 = .ok (.iload_n 1, 1) := by decide +kernel
theorem dX9_when_9 : decode cX9_when 9 = .ok (.iload_n 2, 1) := by decide +kernel
theorem dX9_when_10 : decode cX9_when 10 = .ok (.iload_n 3, 1) := by decide +kernel
theorem dX9_when_11 : decode cX9_when 11 = .ok (.invokevirtual 162, 3) := by decide +kernel
theorem dX9_when_14 : decode cX9_when 14 = .ok (.astore 5, 2) := by decide +kernel
theorem dX9_when_16 : decode cX9_when 16 = .ok (.aload 4, 2) := by decide +kernel
theorem dX9_when_18 : decode cX9_when 18 = .ok (.ifnull 16, 3) := by decide +kernel
theorem dX9_when_21 : decode cX9_when 21 = .ok (.aload 5, 2) := by decide +kernel
theorem dX9_when_23 : decode cX9_when 23 = .ok (.ifnull 11, 3) := by decide +kernel
theorem dX9_when_26 : decode cX9_when 26 = .ok (.aload 5, 2) := by decide +kernel
theorem dX9_when_28 : decode cX9_when 28 = .ok (.invokevirtual 205, 3) := by decide +kernel
theorem dX9_when_31 : decode cX9_when 31 = .ok (.ifCond .ne 5, 3) := by decide +kernel
theorem dX9_when_34 : decode cX9_when 34 = .ok (.iconst (-1), 1) := by decide +kernel
theorem dX9_when_35 : decode cX9_when 35 = .ok (.ireturn, 1) := by decide +kernel
theorem dX9_when_36 : decode cX9_when 36 = .ok (.aload 5, 2) := by decide +kernel
theorem dX9_when_38 : decode cX9_when 38 = .ok (.aload 4, 2) := by decide +kernel
theorem dX9_when_40 : decode cX9_when 40 = .ok (.getfield 108, 3) := by decide +kernel
theorem dX9_when_43 : decode cX9_when 43 = .ok (.aload_n 0, 1) := by decide +kernel
theorem dX9_when_44 : decode cX9_when 44 = .ok (.getfield 12, 3) := by decide +kernel
theorem dX9_when_47 : decode cX9_when 47 = .ok (.invokevirtual 208, 3) := by decide +kernel
theorem dX9_when_50 : decode cX9_when 50 = .ok (.ireturn, 1) := by decide +kernel
theorem dX9_pupil_0 : decode cX9_pupil 0 = .ok (.aload_n 0, 1) := by decide +kernel
theorem dX9_pupil_1 : decode cX9_pupil 1 = .ok (.iload_n 1, 1) := by decide +kernel
theorem dX9_pupil_2 : decode cX9_pupil 2 = .ok (.invokevirtual 104, 3) := by decide +kernel
theorem dX9_pupil_5 : decode cX9_pupil 5 = .ok (.astore_n 3, 1) := by decide +kernel
theorem dX9_pupil_6 : decode cX9_pupil 6 = .ok (.aload_n 3, 1) := by decide +kernel
theorem dX9_pupil_7 : decode cX9_pupil 7 = .ok (.ifnonnull 5, 3) := by decide +kernel
theorem dX9_pupil_10 : decode cX9_pupil 10 = .ok (.iconst (-1), 1) := by decide +kernel
theorem dX9_pupil_11 : decode cX9_pupil 11 = .ok (.ireturn, 1) := by decide +kernel
theorem dX9_pupil_12 : decode cX9_pupil 12 = .ok (.iload_n 2, 1) := by decide +kernel
theorem dX9_pupil_13 : decode cX9_pupil 13 = .ok (.tableswitch 88 0 5 #[39, 48, 58, 68, 78, 83], 39) := by decide +kernel
theorem dX9_pupil_52 : decode cX9_pupil 52 = .ok (.aload_n 3, 1) := by decide +kernel
theorem dX9_pupil_53 : decode cX9_pupil 53 = .ok (.aload_n 0, 1) := by decide +kernel
theorem dX9_pupil_54 : decode cX9_pupil 54 = .ok (.getfield 12, 3) := by decide +kernel
theorem dX9_pupil_57 : decode cX9_pupil 57 = .ok (.invokevirtual 212, 3) := by decide +kernel
theorem dX9_pupil_60 : decode cX9_pupil 60 = .ok (.ireturn, 1) := by decide +kernel
theorem dX9_pupil_61 : decode cX9_pupil 61 = .ok (.aload_n 3, 1) := by decide +kernel
theorem dX9_pupil_62 : decode cX9_pupil 62 = .ok (.iconst 1, 1) := by decide +kernel
theorem dX9_pupil_63 : decode cX9_pupil 63 = .ok (.aload_n 0, 1) := by decide +kernel
theorem dX9_pupil_64 : decode cX9_pupil 64 = .ok (.getfield 12, 3) := by decide +kernel
theorem dX9_pupil_67 : decode cX9_pupil 67 = .ok (.invokevirtual 216, 3) := by decide +kernel
theorem dX9_pupil_70 : decode cX9_pupil 70 = .ok (.ireturn, 1) := by decide +kernel
theorem dX9_pupil_71 : decode cX9_pupil 71 = .ok (.aload_n 3, 1) := by decide +kernel
theorem dX9_pupil_72 : decode cX9_pupil 72 = .ok (.iconst 2, 1) := by decide +kernel
theorem dX9_pupil_73 : decode cX9_pupil 73 = .ok (.aload_n 0, 1) := by decide +kernel
theorem dX9_pupil_74 : decode cX9_pupil 74 = .ok (.getfield 12, 3) := by decide +kernel
theorem dX9_pupil_77 : decode cX9_pupil 77 = .ok (.invokevirtual 216, 3) := by decide +kernel
theorem dX9_pupil_80 : decode cX9_pupil 80 = .ok (.ireturn, 1) := by decide +kernel
theorem dX9_pupil_81 : decode cX9_pupil 81 = .ok (.aload_n 3, 1) := by decide +kernel
theorem dX9_pupil_82 : decode cX9_pupil 82 = .ok (.iconst 3, 1) := by decide +kernel
theorem dX9_pupil_83 : decode cX9_pupil 83 = .ok (.aload_n 0, 1) := by decide +kernel
theorem dX9_pupil_84 : decode cX9_pupil 84 = .ok (.getfield 12, 3) := by decide +kernel
theorem dX9_pupil_87 : decode cX9_pupil 87 = .ok (.invokevirtual 216, 3) := by decide +kernel
theorem dX9_pupil_90 : decode cX9_pupil 90 = .ok (.ireturn, 1) := by decide +kernel
theorem dX9_pupil_91 : decode cX9_pupil 91 = .ok (.aload_n 3, 1) := by decide +kernel
theorem dX9_pupil_92 : decode cX9_pupil 92 = .ok (.getfield 114, 3) := by decide +kernel
theorem dX9_pupil_95 : decode cX9_pupil 95 = .ok (.ireturn, 1) := by decide +kernel
theorem dX9_pupil_96 : decode cX9_pupil 96 = .ok (.aload_n 3, 1) := by decide +kernel
theorem dX9_pupil_97 : decode cX9_pupil 97 = .ok (.getfield 108, 3) := by decide +kernel
theorem dX9_pupil_100 : decode cX9_pupil 100 = .ok (.ireturn, 1) := by decide +kernel
theorem dX9_pupil_101 : decode cX9_pupil 101 = .ok (.iconst (-1), 1) := by decide +kernel
theorem dX9_pupil_102 : decode cX9_pupil 102 = .ok (.ireturn, 1) := by decide +kernel
theorem dX9_known_0 : decode cX9_known 0 = .ok (.aload_n 0, 1) := by decide +kernel
theorem dX9_known_1 : decode cX9_known 1 = .ok (.iload_n 1, 1) := by decide +kernel
theorem dX9_known_2 : decode cX9_known 2 = .ok (.invokevirtual 104, 3) := by decide +kernel
theorem dX9_known_5 : decode cX9_known 5 = .ok (.astore_n 3, 1) := by decide +kernel
theorem dX9_known_6 : decode cX9_known 6 = .ok (.aload_n 3, 1) := by decide +kernel
theorem dX9_known_7 : decode cX9_known 7 = .ok (.ifnonnull 7, 3) := by decide +kernel
theorem dX9_known_10 : decode cX9_known 10 = .ok (.aconst_null, 1) := by decide +kernel
theorem dX9_known_11 : decode cX9_known 11 = .ok (.goto 8, 3) := by decide +kernel
theorem dX9_known_14 : decode cX9_known 14 = .ok (.aload_n 3, 1) := by decide +kernel
theorem dX9_known_15 : decode cX9_known 15 = .ok (.iload_n 2, 1) := by decide +kernel
theorem dX9_known_16 : decode cX9_known 16 = .ok (.invokevirtual 219, 3) := by decide +kernel
theorem dX9_known_19 : decode cX9_known 19 = .ok (.astore 4, 2) := by decide +kernel
theorem dX9_known_21 : decode cX9_known 21 = .ok (.aload_n 3, 1) := by decide +kernel
theorem dX9_known_22 : decode cX9_known 22 = .ok (.ifnull 8, 3) := by decide +kernel
theorem dX9_known_25 : decode cX9_known 25 = .ok (.aload 4, 2) := by decide +kernel
theorem dX9_known_27 : decode cX9_known 27 = .ok (.ifnonnull 5, 3) := by decide +kernel
theorem dX9_known_30 : decode cX9_known 30 = .ok (.iconst (-1), 1) := by decide +kernel
theorem dX9_known_31 : decode cX9_known 31 = .ok (.ireturn, 1) := by decide +kernel
theorem dX9_known_32 : decode cX9_known 32 = .ok (.aload 4, 2) := by decide +kernel
theorem dX9_known_34 : decode cX9_known 34 = .ok (.aload_n 3, 1) := by decide +kernel
theorem dX9_known_35 : decode cX9_known 35 = .ok (.getfield 108, 3) := by decide +kernel
theorem dX9_known_38 : decode cX9_known 38 = .ok (.aload_n 0, 1) := by decide +kernel
theorem dX9_known_39 : decode cX9_known 39 = .ok (.getfield 12, 3) := by decide +kernel
theorem dX9_known_42 : decode cX9_known 42 = .ok (.invokevirtual 223, 3) := by decide +kernel
theorem dX9_known_45 : decode cX9_known 45 = .ok (.ifCond .eq 7, 3) := by decide +kernel
theorem dX9_known_48 : decode cX9_known 48 = .ok (.iconst 1, 1) := by decide +kernel
theorem dX9_known_49 : decode cX9_known 49 = .ok (.goto 4, 3) := by decide +kernel
theorem dX9_known_52 : decode cX9_known 52 = .ok (.iconst 0, 1) := by decide +kernel
theorem dX9_known_53 : decode cX9_known 53 = .ok (.ireturn, 1) := by decide +kernel
theorem dX9_mean_0 : decode cX9_mean 0 = .ok (.aload_n 0, 1) := by decide +kernel
theorem dX9_mean_1 : decode cX9_mean 1 = .ok (.getfield 30, 3) := by decide +kernel
theorem dX9_mean_4 : decode cX9_mean 4 = .ok (.iload_n 1, 1) := by decide +kernel
theorem dX9_mean_5 : decode cX9_mean 5 = .ok (.iload_n 2, 1) := by decide +kernel
theorem dX9_mean_6 : decode cX9_mean 6 = .ok (.invokevirtual 229, 3) := by decide +kernel
theorem dX9_mean_9 : decode cX9_mean 9 = .ok (.ifnonnull 5, 3) := by decide +kernel
theorem dX9_mean_12 : decode cX9_mean 12 = .ok (.iconst (-1), 1) := by decide +kernel
theorem dX9_mean_13 : decode cX9_mean 13 = .ok (.ireturn, 1) := by decide +kernel
theorem dX9_mean_14 : decode cX9_mean 14 = .ok (.iconst 0, 1) := by decide +kernel
theorem dX9_mean_15 : decode cX9_mean 15 = .ok (.istore_n 3, 1) := by decide +kernel
theorem dX9_mean_16 : decode cX9_mean 16 = .ok (.iconst 0, 1) := by decide +kernel
theorem dX9_mean_17 : decode cX9_mean 17 = .ok (.istore 4, 2) := by decide +kernel
theorem dX9_mean_19 : decode cX9_mean 19 = .ok (.iload 4, 2) := by decide +kernel
theorem dX9_mean_21 : decode cX9_mean 21 = .ok (.aload_n 0, 1) := by decide +kernel
theorem dX9_mean_22 : decode cX9_mean 22 = .ok (.getfield 25, 3) := by decide +kernel
theorem dX9_mean_25 : decode cX9_mean 25 = .ok (.arraylength, 1) := by decide +kernel
theorem dX9_mean_26 : decode cX9_mean 26 = .ok (.if_icmp .ge 50, 3) := by decide +kernel
theorem dX9_mean_29 : decode cX9_mean 29 = .ok (.aload_n 0, 1) := by decide +kernel
theorem dX9_mean_30 : decode cX9_mean 30 = .ok (.getfield 25, 3) := by decide +kernel
theorem dX9_mean_33 : decode cX9_mean 33 = .ok (.iload 4, 2) := by decide +kernel
theorem dX9_mean_35 : decode cX9_mean 35 = .ok (.aaload, 1) := by decide +kernel
theorem dX9_mean_36 : decode cX9_mean 36 = .ok (.iload_n 1, 1) := by decide +kernel
theorem dX9_mean_37 : decode cX9_mean 37 = .ok (.iload_n 2, 1) := by decide +kernel
theorem dX9_mean_38 : decode cX9_mean 38 = .ok (.invokevirtual 229, 3) := by decide +kernel
theorem dX9_mean_41 : decode cX9_mean 41 = .ok (.astore 5, 2) := by decide +kernel
theorem dX9_mean_43 : decode cX9_mean 43 = .ok (.aload 5, 2) := by decide +kernel
theorem dX9_mean_45 : decode cX9_mean 45 = .ok (.ifnull 25, 3) := by decide +kernel
theorem dX9_mean_48 : decode cX9_mean 48 = .ok (.iload_n 3, 1) := by decide +kernel
theorem dX9_mean_49 : decode cX9_mean 49 = .ok (.aload 5, 2) := by decide +kernel
theorem dX9_mean_51 : decode cX9_mean 51 = .ok (.aload_n 0, 1) := by decide +kernel
theorem dX9_mean_52 : decode cX9_mean 52 = .ok (.getfield 25, 3) := by decide +kernel
theorem dX9_mean_55 : decode cX9_mean 55 = .ok (.iload 4, 2) := by decide +kernel
theorem dX9_mean_57 : decode cX9_mean 57 = .ok (.aaload, 1) := by decide +kernel
theorem dX9_mean_58 : decode cX9_mean 58 = .ok (.getfield 108, 3) := by decide +kernel
theorem dX9_mean_61 : decode cX9_mean 61 = .ok (.aload_n 0, 1) := by decide +kernel
theorem dX9_mean_62 : decode cX9_mean 62 = .ok (.getfield 12, 3) := by decide +kernel
theorem dX9_mean_65 : decode cX9_mean 65 = .ok (.invokevirtual 232, 3) := by decide +kernel
theorem dX9_mean_68 : decode cX9_mean 68 = .ok (.iadd, 1) := by decide +kernel
theorem dX9_mean_69 : decode cX9_mean 69 = .ok (.istore_n 3, 1) := by decide +kernel
theorem dX9_mean_70 : decode cX9_mean 70 = .ok (.iinc 4 1, 3) := by decide +kernel
theorem dX9_mean_73 : decode cX9_mean 73 = .ok (.goto (-54), 3) := by decide +kernel
theorem dX9_mean_76 : decode cX9_mean 76 = .ok (.iload_n 3, 1) := by decide +kernel
theorem dX9_mean_77 : decode cX9_mean 77 = .ok (.ireturn, 1) := by decide +kernel
theorem dX9_isAskedOn_0 : decode cX9_isAskedOn 0 = .ok (.iconst 0, 1) := by decide +kernel
theorem dX9_isAskedOn_1 : decode cX9_isAskedOn 1 = .ok (.istore 4, 2) := by decide +kernel
theorem dX9_isAskedOn_3 : decode cX9_isAskedOn 3 = .ok (.iconst 0, 1) := by decide +kernel
theorem dX9_isAskedOn_4 : decode cX9_isAskedOn 4 = .ok (.istore 5, 2) := by decide +kernel
theorem dX9_isAskedOn_6 : decode cX9_isAskedOn 6 = .ok (.iload 5, 2) := by decide +kernel
theorem dX9_isAskedOn_8 : decode cX9_isAskedOn 8 = .ok (.iload_n 3, 1) := by decide +kernel
theorem dX9_isAskedOn_9 : decode cX9_isAskedOn 9 = .ok (.if_icmp .gt 77, 3) := by decide +kernel
theorem dX9_isAskedOn_12 : decode cX9_isAskedOn 12 = .ok (.aload_n 1, 1) := by decide +kernel
theorem dX9_isAskedOn_13 : decode cX9_isAskedOn 13 = .ok (.aload_n 1, 1) := by decide +kernel
theorem dX9_isAskedOn_14 : decode cX9_isAskedOn 14 = .ok (.iload_n 2, 1) := by decide +kernel
theorem dX9_isAskedOn_15 : decode cX9_isAskedOn 15 = .ok (.iload 5, 2) := by decide +kernel
theorem dX9_isAskedOn_17 : decode cX9_isAskedOn 17 = .ok (.iadd, 1) := by decide +kernel
theorem dX9_isAskedOn_18 : decode cX9_isAskedOn 18 = .ok (.aload_n 0, 1) := by decide +kernel
theorem dX9_isAskedOn_19 : decode cX9_isAskedOn 19 = .ok (.getfield 12, 3) := by decide +kernel
theorem dX9_isAskedOn_22 : decode cX9_isAskedOn 22 = .ok (.invokevirtual 296, 3) := by decide +kernel
theorem dX9_isAskedOn_25 : decode cX9_isAskedOn 25 = .ok (.invokevirtual 299, 3) := by decide +kernel
theorem dX9_isAskedOn_28 : decode cX9_isAskedOn 28 = .ok (.astore 6, 2) := by decide +kernel
theorem dX9_isAskedOn_30 : decode cX9_isAskedOn 30 = .ok (.aload 6, 2) := by decide +kernel
theorem dX9_isAskedOn_32 : decode cX9_isAskedOn 32 = .ok (.ifnull 7, 3) := by decide +kernel
theorem dX9_isAskedOn_35 : decode cX9_isAskedOn 35 = .ok (.iconst 1, 1) := by decide +kernel
theorem dX9_isAskedOn_36 : decode cX9_isAskedOn 36 = .ok (.goto 4, 3) := by decide +kernel
theorem dX9_isAskedOn_39 : decode cX9_isAskedOn 39 = .ok (.iconst 0, 1) := by decide +kernel
theorem dX9_isAskedOn_40 : decode cX9_isAskedOn 40 = .ok (.istore 4, 2) := by decide +kernel
theorem dX9_isAskedOn_42 : decode cX9_isAskedOn 42 = .ok (.aload 6, 2) := by decide +kernel
theorem dX9_isAskedOn_44 : decode cX9_isAskedOn 44 = .ok (.ifnull 27, 3) := by decide +kernel
theorem dX9_isAskedOn_47 : decode cX9_isAskedOn 47 = .ok (.aload 6, 2) := by decide +kernel
theorem dX9_isAskedOn_49 : decode cX9_isAskedOn 49 = .ok (.aload_n 0, 1) := by decide +kernel
theorem dX9_isAskedOn_50 : decode cX9_isAskedOn 50 = .ok (.getfield 59, 3) := by decide +kernel
theorem dX9_isAskedOn_53 : decode cX9_isAskedOn 53 = .ok (.iconst 2, 1) := by decide +kernel
theorem dX9_isAskedOn_54 : decode cX9_isAskedOn 54 = .ok (.aload_n 0, 1) := by decide +kernel
theorem dX9_isAskedOn_55 : decode cX9_isAskedOn 55 = .ok (.getfield 55, 3) := by decide +kernel
theorem dX9_isAskedOn_58 : decode cX9_isAskedOn 58 = .ok (.iconst 2, 1) := by decide +kernel
theorem dX9_isAskedOn_59 : decode cX9_isAskedOn 59 = .ok (.iaload, 1) := by decide +kernel
theorem dX9_isAskedOn_60 : decode cX9_isAskedOn 60 = .ok (.iload_n 2, 1) := by decide +kernel
theorem dX9_isAskedOn_61 : decode cX9_isAskedOn 61 = .ok (.iload 5, 2) := by decide +kernel
theorem dX9_isAskedOn_63 : decode cX9_isAskedOn 63 = .ok (.iadd, 1) := by decide +kernel
theorem dX9_isAskedOn_64 : decode cX9_isAskedOn 64 = .ok (.aload_n 0, 1) := by decide +kernel
theorem dX9_isAskedOn_65 : decode cX9_isAskedOn 65 = .ok (.getfield 12, 3) := by decide +kernel
theorem dX9_isAskedOn_68 : decode cX9_isAskedOn 68 = .ok (.invokevirtual 151, 3) := by decide +kernel
theorem dX9_isAskedOn_71 : decode cX9_isAskedOn 71 = .ok (.iload 5, 2) := by decide +kernel
theorem dX9_isAskedOn_73 : decode cX9_isAskedOn 73 = .ok (.ifCond .ne 7, 3) := by decide +kernel
theorem dX9_isAskedOn_76 : decode cX9_isAskedOn 76 = .ok (.aload_n 1, 1) := by decide +kernel
theorem dX9_isAskedOn_77 : decode cX9_isAskedOn 77 = .ok (.invokevirtual 300, 3) := by decide +kernel
theorem dX9_isAskedOn_80 : decode cX9_isAskedOn 80 = .ok (.iinc 5 1, 3) := by decide +kernel
theorem dX9_isAskedOn_83 : decode cX9_isAskedOn 83 = .ok (.goto (-77), 3) := by decide +kernel
theorem dX9_isAskedOn_86 : decode cX9_isAskedOn 86 = .ok (.iload 4, 2) := by decide +kernel
theorem dX9_isAskedOn_88 : decode cX9_isAskedOn 88 = .ok (.ireturn, 1) := by decide +kernel
theorem dX9_plan_0 : decode cX9_plan 0 = .ok (.aload_n 0, 1) := by decide +kernel
theorem dX9_plan_1 : decode cX9_plan 1 = .ok (.iload_n 1, 1) := by decide +kernel
theorem dX9_plan_2 : decode cX9_plan 2 = .ok (.invokevirtual 104, 3) := by decide +kernel
theorem dX9_plan_5 : decode cX9_plan 5 = .ok (.astore_n 3, 1) := by decide +kernel
theorem dX9_plan_6 : decode cX9_plan 6 = .ok (.aload_n 3, 1) := by decide +kernel
theorem dX9_plan_7 : decode cX9_plan 7 = .ok (.ifnull 13, 3) := by decide +kernel
theorem dX9_plan_10 : decode cX9_plan 10 = .ok (.iload_n 2, 1) := by decide +kernel
theorem dX9_plan_11 : decode cX9_plan 11 = .ok (.ifCond .lt 9, 3) := by decide +kernel
theorem dX9_plan_14 : decode cX9_plan 14 = .ok (.iload_n 2, 1) := by decide +kernel
theorem dX9_plan_15 : decode cX9_plan 15 = .ok (.bipush 60, 2) := by decide +kernel
theorem dX9_plan_17 : decode cX9_plan 17 = .ok (.if_icmp .lt 5, 3) := by decide +kernel
theorem dX9_plan_20 : decode cX9_plan 20 = .ok (.iconst (-1), 1) := by decide +kernel
theorem dX9_plan_21 : decode cX9_plan 21 = .ok (.ireturn, 1) := by decide +kernel
theorem dX9_plan_22 : decode cX9_plan 22 = .ok (.iconst 0, 1) := by decide +kernel
theorem dX9_plan_23 : decode cX9_plan 23 = .ok (.istore 4, 2) := by decide +kernel
theorem dX9_plan_25 : decode cX9_plan 25 = .ok (.iconst 0, 1) := by decide +kernel
theorem dX9_plan_26 : decode cX9_plan 26 = .ok (.istore 5, 2) := by decide +kernel
theorem dX9_plan_28 : decode cX9_plan 28 = .ok (.iload 5, 2) := by decide +kernel
theorem dX9_plan_30 : decode cX9_plan 30 = .ok (.aload_n 0, 1) := by decide +kernel
theorem dX9_plan_31 : decode cX9_plan 31 = .ok (.getfield 19, 3) := by decide +kernel
theorem dX9_plan_34 : decode cX9_plan 34 = .ok (.invokevirtual 69, 3) := by decide +kernel
theorem dX9_plan_37 : decode cX9_plan 37 = .ok (.if_icmp .ge 69, 3) := by decide +kernel
theorem dX9_plan_40 : decode cX9_plan 40 = .ok (.aload_n 3, 1) := by decide +kernel
theorem dX9_plan_41 : decode cX9_plan 41 = .ok (.iload 5, 2) := by decide +kernel
theorem dX9_plan_43 : decode cX9_plan 43 = .ok (.invokevirtual 219, 3) := by decide +kernel
theorem dX9_plan_46 : decode cX9_plan 46 = .ok (.astore 6, 2) := by decide +kernel
theorem dX9_plan_48 : decode cX9_plan 48 = .ok (.aload_n 0, 1) := by decide +kernel
theorem dX9_plan_49 : decode cX9_plan 49 = .ok (.getfield 30, 3) := by decide +kernel
theorem dX9_plan_52 : decode cX9_plan 52 = .ok (.iload 5, 2) := by decide +kernel
theorem dX9_plan_54 : decode cX9_plan 54 = .ok (.invokevirtual 219, 3) := by decide +kernel
theorem dX9_plan_57 : decode cX9_plan 57 = .ok (.astore 7, 2) := by decide +kernel
theorem dX9_plan_59 : decode cX9_plan 59 = .ok (.aload 6, 2) := by decide +kernel
theorem dX9_plan_61 : decode cX9_plan 61 = .ok (.ifnull 39, 3) := by decide +kernel
theorem dX9_plan_64 : decode cX9_plan 64 = .ok (.aload 7, 2) := by decide +kernel
theorem dX9_plan_66 : decode cX9_plan 66 = .ok (.ifnull 34, 3) := by decide +kernel
theorem dX9_plan_69 : decode cX9_plan 69 = .ok (.aload 7, 2) := by decide +kernel
theorem dX9_plan_71 : decode cX9_plan 71 = .ok (.aload 6, 2) := by decide +kernel
theorem dX9_plan_73 : decode cX9_plan 73 = .ok (.invokevirtual 235, 3) := by decide +kernel
theorem dX9_plan_76 : decode cX9_plan 76 = .ok (.iload 4, 2) := by decide +kernel
theorem dX9_plan_78 : decode cX9_plan 78 = .ok (.aload_n 0, 1) := by decide +kernel
theorem dX9_plan_79 : decode cX9_plan 79 = .ok (.aload 7, 2) := by decide +kernel
theorem dX9_plan_81 : decode cX9_plan 81 = .ok (.aload_n 3, 1) := by decide +kernel
theorem dX9_plan_82 : decode cX9_plan 82 = .ok (.getfield 108, 3) := by decide +kernel
theorem dX9_plan_85 : decode cX9_plan 85 = .ok (.iload_n 2, 1) := by decide +kernel
theorem dX9_plan_86 : decode cX9_plan 86 = .ok (.invokevirtual 238, 3) := by decide +kernel
theorem dX9_plan_89 : decode cX9_plan 89 = .ok (.ifCond .eq 7, 3) := by decide +kernel
theorem dX9_plan_92 : decode cX9_plan 92 = .ok (.iconst 1, 1) := by decide +kernel
theorem dX9_plan_93 : decode cX9_plan 93 = .ok (.goto 4, 3) := by decide +kernel
theorem dX9_plan_96 : decode cX9_plan 96 = .ok (.iconst 0, 1) := by decide +kernel
theorem dX9_plan_97 : decode cX9_plan 97 = .ok (.iadd, 1) := by decide +kernel
theorem dX9_plan_98 : decode cX9_plan 98 = .ok (.istore 4, 2) := by decide +kernel
theorem dX9_plan_100 : decode cX9_plan 100 = .ok (.iinc 5 1, 3) := by decide +kernel
theorem dX9_plan_103 : decode cX9_plan 103 = .ok (.goto (-75), 3) := by decide +kernel
theorem dX9_plan_106 : decode cX9_plan 106 = .ok (.iload 4, 2) := by decide +kernel
theorem dX9_plan_108 : decode cX9_plan 108 = .ok (.ireturn, 1) := by decide +kernel
theorem dX9_even_0 : decode cX9_even 0 = .ok (.aload_n 0, 1) := by decide +kernel
theorem dX9_even_1 : decode cX9_even 1 = .ok (.iload_n 1, 1) := by decide +kernel
theorem dX9_even_2 : decode cX9_even 2 = .ok (.invokevirtual 104, 3) := by decide +kernel
theorem dX9_even_5 : decode cX9_even 5 = .ok (.astore_n 3, 1) := by decide +kernel
theorem dX9_even_6 : decode cX9_even 6 = .ok (.aload_n 3, 1) := by decide +kernel
theorem dX9_even_7 : decode cX9_even 7 = .ok (.ifnull 13, 3) := by decide +kernel
theorem dX9_even_10 : decode cX9_even 10 = .ok (.iload_n 2, 1) := by decide +kernel
theorem dX9_even_11 : decode cX9_even 11 = .ok (.ifCond .lt 9, 3) := by decide +kernel
theorem dX9_even_14 : decode cX9_even 14 = .ok (.iload_n 2, 1) := by decide +kernel
theorem dX9_even_15 : decode cX9_even 15 = .ok (.bipush 20, 2) := by decide +kernel
theorem dX9_even_17 : decode cX9_even 17 = .ok (.if_icmp .le 5, 3) := by decide +kernel
theorem dX9_even_20 : decode cX9_even 20 = .ok (.iconst (-1), 1) := by decide +kernel
theorem dX9_even_21 : decode cX9_even 21 = .ok (.ireturn, 1) := by decide +kernel
theorem dX9_even_22 : decode cX9_even 22 = .ok (.aload_n 0, 1) := by decide +kernel
theorem dX9_even_23 : decode cX9_even 23 = .ok (.getfield 44, 3) := by decide +kernel
theorem dX9_even_26 : decode cX9_even 26 = .ok (.aload_n 3, 1) := by decide +kernel
theorem dX9_even_27 : decode cX9_even 27 = .ok (.aload_n 0, 1) := by decide +kernel
theorem dX9_even_28 : decode cX9_even 28 = .ok (.getfield 12, 3) := by decide +kernel
theorem dX9_even_31 : decode cX9_even 31 = .ok (.invokevirtual 242, 3) := by decide +kernel
theorem dX9_even_34 : decode cX9_even 34 = .ok (.aload_n 0, 1) := by decide +kernel
theorem dX9_even_35 : decode cX9_even 35 = .ok (.getfield 44, 3) := by decide +kernel
theorem dX9_even_38 : decode cX9_even 38 = .ok (.iload_n 2, 1) := by decide +kernel
theorem dX9_even_39 : decode cX9_even 39 = .ok (.invokevirtual 246, 3) := by decide +kernel
theorem dX9_even_42 : decode cX9_even 42 = .ok (.ireturn, 1) := by decide +kernel
theorem dX9_load_0 : decode cX9_load 0 = .ok (.aload_n 0, 1) := by decide +kernel
theorem dX9_load_1 : decode cX9_load 1 = .ok (.getfield 44, 3) := by decide +kernel
theorem dX9_load_4 : decode cX9_load 4 = .ok (.iload_n 1, 1) := by decide +kernel
theorem dX9_load_5 : decode cX9_load 5 = .ok (.invokevirtual 249, 3) := by decide +kernel
theorem dX9_load_8 : decode cX9_load 8 = .ok (.ireturn, 1) := by decide +kernel
theorem dX9_put_0 : decode cX9_put 0 = .ok (.aload_n 0, 1) := by decide +kernel
theorem dX9_put_1 : decode cX9_put 1 = .ok (.getfield 30, 3) := by decide +kernel
theorem dX9_put_4 : decode cX9_put 4 = .ok (.iload_n 1, 1) := by decide +kernel
theorem dX9_put_5 : decode cX9_put 5 = .ok (.iload_n 2, 1) := by decide +kernel
theorem dX9_put_6 : decode cX9_put 6 = .ok (.invokevirtual 229, 3) := by decide +kernel
theorem dX9_put_9 : decode cX9_put 9 = .ok (.ifnonnull 7, 3) := by decide +kernel
theorem dX9_put_12 : decode cX9_put 12 = .ok (.iconst (-1), 1) := by decide +kernel
theorem dX9_put_13 : decode cX9_put 13 = .ok (.goto 15, 3) := by decide +kernel
theorem dX9_put_16 : decode cX9_put 16 = .ok (.aload_n 0, 1) := by decide +kernel
theorem dX9_put_17 : decode cX9_put 17 = .ok (.getfield 44, 3) := by decide +kernel
theorem dX9_put_20 : decode cX9_put 20 = .ok (.iload_n 1, 1) := by decide +kernel
theorem dX9_put_21 : decode cX9_put 21 = .ok (.iload_n 2, 1) := by decide +kernel
theorem dX9_put_22 : decode cX9_put 22 = .ok (.invokestatic 170, 3) := by decide +kernel
theorem dX9_put_25 : decode cX9_put 25 = .ok (.invokevirtual 252, 3) := by decide +kernel
theorem dX9_put_28 : decode cX9_put 28 = .ok (.ireturn, 1) := by decide +kernel
theorem dX9_test_0 : decode cX9_test 0 = .ok (.iload_n 1, 1) := by decide +kernel
theorem dX9_test_1 : decode cX9_test 1 = .ok (.iconst 2, 1) := by decide +kernel
theorem dX9_test_2 : decode cX9_test 2 = .ok (.if_icmp .lt 9, 3) := by decide +kernel
theorem dX9_test_5 : decode cX9_test 5 = .ok (.iload_n 1, 1) := by decide +kernel
theorem dX9_test_6 : decode cX9_test 6 = .ok (.bipush 8, 2) := by decide +kernel
theorem dX9_test_8 : decode cX9_test 8 = .ok (.if_icmp .le 5, 3) := by decide +kernel
theorem dX9_test_11 : decode cX9_test 11 = .ok (.iconst (-1), 1) := by decide +kernel
theorem dX9_test_12 : decode cX9_test 12 = .ok (.ireturn, 1) := by decide +kernel
theorem dX9_test_13 : decode cX9_test 13 = .ok (.iload_n 2, 1) := by decide +kernel
theorem dX9_test_14 : decode cX9_test 14 = .ok (.iconst 1, 1) := by decide +kernel
theorem dX9_test_15 : decode cX9_test 15 = .ok (.if_icmp .lt 22, 3) := by decide +kernel
theorem dX9_test_18 : decode cX9_test 18 = .ok (.iload_n 2, 1) := by decide +kernel
theorem dX9_test_19 : decode cX9_test 19 = .ok (.sipush 499, 3) := by decide +kernel
theorem dX9_test_22 : decode cX9_test 22 = .ok (.if_icmp .gt 15, 3) := by decide +kernel
theorem dX9_test_25 : decode cX9_test 25 = .ok (.iload_n 3, 1) := by decide +kernel
theorem dX9_test_26 : decode cX9_test 26 = .ok (.iconst 1, 1) := by decide +kernel
theorem dX9_test_27 : decode cX9_test 27 = .ok (.if_icmp .lt 10, 3) := by decide +kernel
theorem dX9_test_30 : decode cX9_test 30 = .ok (.iload_n 3, 1) := by decide +kernel
theorem dX9_test_31 : decode cX9_test 31 = .ok (.sipush 499, 3) := by decide +kernel
theorem dX9_test_34 : decode cX9_test 34 = .ok (.if_icmp .le 5, 3) := by decide +kernel
theorem dX9_test_37 : decode cX9_test 37 = .ok (.iconst (-1), 1) := by decide +kernel
theorem dX9_test_38 : decode cX9_test 38 = .ok (.ireturn, 1) := by decide +kernel
theorem dX9_test_39 : decode cX9_test 39 = .ok (.aload_n 0, 1) := by decide +kernel
theorem dX9_test_40 : decode cX9_test 40 = .ok (.getfield 51, 3) := by decide +kernel
theorem dX9_test_43 : decode cX9_test 43 = .ok (.iload_n 1, 1) := by decide +kernel
theorem dX9_test_44 : decode cX9_test 44 = .ok (.iload_n 2, 1) := by decide +kernel
theorem dX9_test_45 : decode cX9_test 45 = .ok (.iload_n 3, 1) := by decide +kernel
theorem dX9_test_46 : decode cX9_test 46 = .ok (.invokevirtual 255, 3) := by decide +kernel
theorem dX9_test_49 : decode cX9_test 49 = .ok (.aload_n 0, 1) := by decide +kernel
theorem dX9_test_50 : decode cX9_test 50 = .ok (.getfield 51, 3) := by decide +kernel
theorem dX9_test_53 : decode cX9_test 53 = .ok (.invokevirtual 259, 3) := by decide +kernel
theorem dX9_test_56 : decode cX9_test 56 = .ok (.ireturn, 1) := by decide +kernel
theorem dX9_told_0 : decode cX9_told 0 = .ok (.aload_n 0, 1) := by decide +kernel
theorem dX9_told_1 : decode cX9_told 1 = .ok (.getfield 51, 3) := by decide +kernel
theorem dX9_told_4 : decode cX9_told 4 = .ok (.getfield 262, 3) := by decide +kernel
theorem dX9_told_7 : decode cX9_told 7 = .ok (.ifCond .eq 6, 3) := by decide +kernel
theorem dX9_told_10 : decode cX9_told 10 = .ok (.bipush (-4), 2) := by decide +kernel
theorem dX9_told_12 : decode cX9_told 12 = .ok (.ireturn, 1) := by decide +kernel
theorem dX9_told_13 : decode cX9_told 13 = .ok (.iload_n 1, 1) := by decide +kernel
theorem dX9_told_14 : decode cX9_told 14 = .ok (.iconst 1, 1) := by decide +kernel
theorem dX9_told_15 : decode cX9_told 15 = .ok (.if_icmp .lt 23, 3) := by decide +kernel
theorem dX9_told_18 : decode cX9_told 18 = .ok (.iload_n 1, 1) := by decide +kernel
theorem dX9_told_19 : decode cX9_told 19 = .ok (.aload_n 0, 1) := by decide +kernel
theorem dX9_told_20 : decode cX9_told 20 = .ok (.getfield 51, 3) := by decide +kernel
theorem dX9_told_23 : decode cX9_told 23 = .ok (.getfield 265, 3) := by decide +kernel
theorem dX9_told_26 : decode cX9_told 26 = .ok (.if_icmp .ge 12, 3) := by decide +kernel
theorem dX9_told_29 : decode cX9_told 29 = .ok (.iload_n 2, 1) := by decide +kernel
theorem dX9_told_30 : decode cX9_told 30 = .ok (.ifCond .lt 8, 3) := by decide +kernel
theorem dX9_told_33 : decode cX9_told 33 = .ok (.iload_n 2, 1) := by decide +kernel
theorem dX9_told_34 : decode cX9_told 34 = .ok (.iconst 1, 1) := by decide +kernel
theorem dX9_told_35 : decode cX9_told 35 = .ok (.if_icmp .le 5, 3) := by decide +kernel
theorem dX9_told_38 : decode cX9_told 38 = .ok (.iconst (-1), 1) := by decide +kernel
theorem dX9_told_39 : decode cX9_told 39 = .ok (.ireturn, 1) := by decide +kernel
theorem dX9_told_40 : decode cX9_told 40 = .ok (.aload_n 0, 1) := by decide +kernel
theorem dX9_told_41 : decode cX9_told 41 = .ok (.getfield 51, 3) := by decide +kernel
theorem dX9_told_44 : decode cX9_told 44 = .ok (.iload_n 1, 1) := by decide +kernel
theorem dX9_told_45 : decode cX9_told 45 = .ok (.iload_n 2, 1) := by decide +kernel
theorem dX9_told_46 : decode cX9_told 46 = .ok (.iconst 1, 1) := by decide +kernel
theorem dX9_told_47 : decode cX9_told 47 = .ok (.if_icmp .ne 7, 3) := by decide +kernel
theorem dX9_told_50 : decode cX9_told 50 = .ok (.iconst 1, 1) := by decide +kernel
theorem dX9_told_51 : decode cX9_told 51 = .ok (.goto 4, 3) := by decide +kernel
theorem dX9_told_54 : decode cX9_told 54 = .ok (.iconst 0, 1) := by decide +kernel
theorem dX9_told_55 : decode cX9_told 55 = .ok (.invokevirtual 268, 3) := by decide +kernel
theorem dX9_told_58 : decode cX9_told 58 = .ok (.aload_n 0, 1) := by decide +kernel
theorem dX9_told_59 : decode cX9_told 59 = .ok (.getfield 51, 3) := by decide +kernel
theorem dX9_told_62 : decode cX9_told 62 = .ok (.getfield 262, 3) := by decide +kernel
theorem dX9_told_65 : decode cX9_told 65 = .ok (.ifCond .eq 7, 3) := by decide +kernel
theorem dX9_told_68 : decode cX9_told 68 = .ok (.iconst 0, 1) := by decide +kernel
theorem dX9_told_69 : decode cX9_told 69 = .ok (.goto 10, 3) := by decide +kernel
theorem dX9_told_72 : decode cX9_told 72 = .ok (.aload_n 0, 1) := by decide +kernel
theorem dX9_told_73 : decode cX9_told 73 = .ok (.getfield 51, 3) := by decide +kernel
theorem dX9_told_76 : decode cX9_told 76 = .ok (.invokevirtual 259, 3) := by decide +kernel
theorem dX9_told_79 : decode cX9_told 79 = .ok (.ireturn, 1) := by decide +kernel
theorem dX9_weight_0 : decode cX9_weight 0 = .ok (.aload_n 0, 1) := by decide +kernel
theorem dX9_weight_1 : decode cX9_weight 1 = .ok (.getfield 51, 3) := by decide +kernel
theorem dX9_weight_4 : decode cX9_weight 4 = .ok (.iload_n 1, 1) := by decide +kernel
theorem dX9_weight_5 : decode cX9_weight 5 = .ok (.invokevirtual 272, 3) := by decide +kernel
theorem dX9_weight_8 : decode cX9_weight 8 = .ok (.lreturn, 1) := by decide +kernel
theorem dX9_level_0 : decode cX9_level 0 = .ok (.aload_n 0, 1) := by decide +kernel
theorem dX9_level_1 : decode cX9_level 1 = .ok (.getfield 51, 3) := by decide +kernel
theorem dX9_level_4 : decode cX9_level 4 = .ok (.invokevirtual 276, 3) := by decide +kernel
theorem dX9_level_7 : decode cX9_level 7 = .ok (.ireturn, 1) := by decide +kernel
theorem dX9_log_0 : decode cX9_log 0 = .ok (.aload_n 0, 1) := by decide +kernel
theorem dX9_log_1 : decode cX9_log 1 = .ok (.getfield 37, 3) := by decide +kernel
theorem dX9_log_4 : decode cX9_log 4 = .ok (.invokevirtual 128, 3) := by decide +kernel
theorem dX9_log_7 : decode cX9_log 7 = .ok (.ireturn, 1) := by decide +kernel
theorem dX9_logged_0 : decode cX9_logged 0 = .ok (.iload_n 1, 1) := by decide +kernel
theorem dX9_logged_1 : decode cX9_logged 1 = .ok (.ifCond .lt 14, 3) := by decide +kernel
theorem dX9_logged_4 : decode cX9_logged 4 = .ok (.iload_n 1, 1) := by decide +kernel
theorem dX9_logged_5 : decode cX9_logged 5 = .ok (.aload_n 0, 1) := by decide +kernel
theorem dX9_logged_6 : decode cX9_logged 6 = .ok (.getfield 37, 3) := by decide +kernel
theorem dX9_logged_9 : decode cX9_logged 9 = .ok (.invokevirtual 128, 3) := by decide +kernel
theorem dX9_logged_12 : decode cX9_logged 12 = .ok (.if_icmp .lt 5, 3) := by decide +kernel
theorem dX9_logged_15 : decode cX9_logged 15 = .ok (.iconst (-1), 1) := by decide +kernel
theorem dX9_logged_16 : decode cX9_logged 16 = .ok (.ireturn, 1) := by decide +kernel
theorem dX9_logged_17 : decode cX9_logged 17 = .ok (.aload_n 0, 1) := by decide +kernel
theorem dX9_logged_18 : decode cX9_logged 18 = .ok (.getfield 37, 3) := by decide +kernel
theorem dX9_logged_21 : decode cX9_logged 21 = .ok (.iload_n 1, 1) := by decide +kernel
theorem dX9_logged_22 : decode cX9_logged 22 = .ok (.invokevirtual 279, 3) := by decide +kernel
theorem dX9_logged_25 : decode cX9_logged 25 = .ok (.checkcast 136, 3) := by decide +kernel
theorem dX9_logged_28 : decode cX9_logged 28 = .ok (.iload_n 2, 1) := by decide +kernel
theorem dX9_logged_29 : decode cX9_logged 29 = .ok (.invokevirtual 282, 3) := by decide +kernel
theorem dX9_logged_32 : decode cX9_logged 32 = .ok (.ireturn, 1) := by decide +kernel
theorem dX9_retellOne_0 : decode cX9_retellOne 0 = .ok (.iload_n 3, 1) := by decide +kernel
theorem dX9_retellOne_1 : decode cX9_retellOne 1 = .ok (.iconst 3, 1) := by decide +kernel
theorem dX9_retellOne_2 : decode cX9_retellOne 2 = .ok (.if_icmp .ne 30, 3) := by decide +kernel
theorem dX9_retellOne_5 : decode cX9_retellOne 5 = .ok (.aload_n 1, 1) := by decide +kernel
theorem dX9_retellOne_6 : decode cX9_retellOne 6 = .ok (.aload_n 2, 1) := by decide +kernel
theorem dX9_retellOne_7 : decode cX9_retellOne 7 = .ok (.getfield 319, 3) := by decide +kernel
theorem dX9_retellOne_10 : decode cX9_retellOne 10 = .ok (.aload_n 2, 1) := by decide +kernel
theorem dX9_retellOne_11 : decode cX9_retellOne 11 = .ok (.getfield 312, 3) := by decide +kernel
theorem dX9_retellOne_14 : decode cX9_retellOne 14 = .ok (.aload_n 2, 1) := by decide +kernel
theorem dX9_retellOne_15 : decode cX9_retellOne 15 = .ok (.getfield 322, 3) := by decide +kernel
theorem dX9_retellOne_18 : decode cX9_retellOne 18 = .ok (.aload_n 2, 1) := by decide +kernel
theorem dX9_retellOne_19 : decode cX9_retellOne 19 = .ok (.getfield 309, 3) := by decide +kernel
theorem dX9_retellOne_22 : decode cX9_retellOne 22 = .ok (.aload_n 0, 1) := by decide +kernel
theorem dX9_retellOne_23 : decode cX9_retellOne 23 = .ok (.getfield 12, 3) := by decide +kernel
theorem dX9_retellOne_26 : decode cX9_retellOne 26 = .ok (.invokevirtual 151, 3) := by decide +kernel
theorem dX9_retellOne_29 : decode cX9_retellOne 29 = .ok (.goto 39, 3) := by decide +kernel
theorem dX9_retellOne_32 : decode cX9_retellOne 32 = .ok (.aload_n 2, 1) := by decide +kernel
theorem dX9_retellOne_33 : decode cX9_retellOne 33 = .ok (.getfield 312, 3) := by decide +kernel
theorem dX9_retellOne_36 : decode cX9_retellOne 36 = .ok (.invokestatic 100, 3) := by decide +kernel
theorem dX9_retellOne_39 : decode cX9_retellOne 39 = .ok (.ifCond .eq 29, 3) := by decide +kernel
theorem dX9_retellOne_42 : decode cX9_retellOne 42 = .ok (.aload_n 1, 1) := by decide +kernel
theorem dX9_retellOne_43 : decode cX9_retellOne 43 = .ok (.iload_n 3, 1) := by decide +kernel
theorem dX9_retellOne_44 : decode cX9_retellOne 44 = .ok (.aload_n 2, 1) := by decide +kernel
theorem dX9_retellOne_45 : decode cX9_retellOne 45 = .ok (.getfield 312, 3) := by decide +kernel
theorem dX9_retellOne_48 : decode cX9_retellOne 48 = .ok (.aload_n 0, 1) := by decide +kernel
theorem dX9_retellOne_49 : decode cX9_retellOne 49 = .ok (.getfield 55, 3) := by decide +kernel
theorem dX9_retellOne_52 : decode cX9_retellOne 52 = .ok (.aload_n 2, 1) := by decide +kernel
theorem dX9_retellOne_53 : decode cX9_retellOne 53 = .ok (.getfield 312, 3) := by decide +kernel
theorem dX9_retellOne_56 : decode cX9_retellOne 56 = .ok (.iaload, 1) := by decide +kernel
theorem dX9_retellOne_57 : decode cX9_retellOne 57 = .ok (.aload_n 2, 1) := by decide +kernel
theorem dX9_retellOne_58 : decode cX9_retellOne 58 = .ok (.getfield 309, 3) := by decide +kernel
theorem dX9_retellOne_61 : decode cX9_retellOne 61 = .ok (.aload_n 0, 1) := by decide +kernel
theorem dX9_retellOne_62 : decode cX9_retellOne 62 = .ok (.getfield 12, 3) := by decide +kernel
theorem dX9_retellOne_65 : decode cX9_retellOne 65 = .ok (.invokevirtual 151, 3) := by decide +kernel
theorem dX9_retellOne_68 : decode cX9_retellOne 68 = .ok (.return_, 1) := by decide +kernel
theorem dX9_retell_0 : decode cX9_retell 0 = .ok (.aload_n 0, 1) := by decide +kernel
theorem dX9_retell_1 : decode cX9_retell 1 = .ok (.getfield 30, 3) := by decide +kernel
theorem dX9_retell_4 : decode cX9_retell 4 = .ok (.invokevirtual 303, 3) := by decide +kernel
theorem dX9_retell_7 : decode cX9_retell 7 = .ok (.lconst 0, 1) := by decide +kernel
theorem dX9_retell_8 : decode cX9_retell 8 = .ok (.lstore_n 3, 1) := by decide +kernel
theorem dX9_retell_9 : decode cX9_retell 9 = .ok (.iconst 0, 1) := by decide +kernel
theorem dX9_retell_10 : decode cX9_retell 10 = .ok (.istore 5, 2) := by decide +kernel
theorem dX9_retell_12 : decode cX9_retell 12 = .ok (.iload 5, 2) := by decide +kernel
theorem dX9_retell_14 : decode cX9_retell 14 = .ok (.aload_n 0, 1) := by decide +kernel
theorem dX9_retell_15 : decode cX9_retell 15 = .ok (.getfield 37, 3) := by decide +kernel
theorem dX9_retell_18 : decode cX9_retell 18 = .ok (.invokevirtual 128, 3) := by decide +kernel
theorem dX9_retell_21 : decode cX9_retell 21 = .ok (.if_icmp .ge 108, 3) := by decide +kernel
theorem dX9_retell_24 : decode cX9_retell 24 = .ok (.aload_n 0, 1) := by decide +kernel
theorem dX9_retell_25 : decode cX9_retell 25 = .ok (.getfield 37, 3) := by decide +kernel
theorem dX9_retell_28 : decode cX9_retell 28 = .ok (.iload 5, 2) := by decide +kernel
theorem dX9_retell_30 : decode cX9_retell 30 = .ok (.invokevirtual 279, 3) := by decide +kernel
theorem dX9_retell_33 : decode cX9_retell 33 = .ok (.checkcast 136, 3) := by decide +kernel
theorem dX9_retell_36 : decode cX9_retell 36 = .ok (.astore 6, 2) := by decide +kernel
theorem dX9_retell_38 : decode cX9_retell 38 = .ok (.aload_n 0, 1) := by decide +kernel
theorem dX9_retell_39 : decode cX9_retell 39 = .ok (.getfield 30, 3) := by decide +kernel
theorem dX9_retell_42 : decode cX9_retell 42 = .ok (.aload 6, 2) := by decide +kernel
theorem dX9_retell_44 : decode cX9_retell 44 = .ok (.getfield 187, 3) := by decide +kernel
theorem dX9_retell_47 : decode cX9_retell 47 = .ok (.invokevirtual 129, 3) := by decide +kernel
theorem dX9_retell_50 : decode cX9_retell 50 = .ok (.astore 7, 2) := by decide +kernel
theorem dX9_retell_52 : decode cX9_retell 52 = .ok (.aload 6, 2) := by decide +kernel
theorem dX9_retell_54 : decode cX9_retell 54 = .ok (.getfield 184, 3) := by decide +kernel
theorem dX9_retell_57 : decode cX9_retell 57 = .ok (.iload_n 1, 1) := by decide +kernel
theorem dX9_retell_58 : decode cX9_retell 58 = .ok (.if_icmp .ne 65, 3) := by decide +kernel
theorem dX9_retell_61 : decode cX9_retell 61 = .ok (.aload 7, 2) := by decide +kernel
theorem dX9_retell_63 : decode cX9_retell 63 = .ok (.ifnull 60, 3) := by decide +kernel
theorem dX9_retell_66 : decode cX9_retell 66 = .ok (.aload 7, 2) := by decide +kernel
theorem dX9_retell_68 : decode cX9_retell 68 = .ok (.invokevirtual 306, 3) := by decide +kernel
theorem dX9_retell_71 : decode cX9_retell 71 = .ok (.ifCond .ne 43, 3) := by decide +kernel
theorem dX9_retell_74 : decode cX9_retell 74 = .ok (.aload 7, 2) := by decide +kernel
theorem dX9_retell_76 : decode cX9_retell 76 = .ok (.aload 6, 2) := by decide +kernel
theorem dX9_retell_78 : decode cX9_retell 78 = .ok (.getfield 309, 3) := by decide +kernel
theorem dX9_retell_81 : decode cX9_retell 81 = .ok (.aload_n 0, 1) := by decide +kernel
theorem dX9_retell_82 : decode cX9_retell 82 = .ok (.getfield 12, 3) := by decide +kernel
theorem dX9_retell_85 : decode cX9_retell 85 = .ok (.invokevirtual 232, 3) := by decide +kernel
theorem dX9_retell_88 : decode cX9_retell 88 = .ok (.istore 8, 2) := by decide +kernel
theorem dX9_retell_90 : decode cX9_retell 90 = .ok (.lload_n 3, 1) := by decide +kernel
theorem dX9_retell_91 : decode cX9_retell 91 = .ok (.aload 6, 2) := by decide +kernel
theorem dX9_retell_93 : decode cX9_retell 93 = .ok (.getfield 312, 3) := by decide +kernel
theorem dX9_retell_96 : decode cX9_retell 96 = .ok (.ifCond .ne 9, 3) := by decide +kernel
theorem dX9_retell_99 : decode cX9_retell 99 = .ok (.iload 8, 2) := by decide +kernel
theorem dX9_retell_101 : decode cX9_retell 101 = .ok (.i2l, 1) := by decide +kernel
theorem dX9_retell_102 : decode cX9_retell 102 = .ok (.goto 10, 3) := by decide +kernel
theorem dX9_retell_105 : decode cX9_retell 105 = .ok (.sipush 1000, 3) := by decide +kernel
theorem dX9_retell_108 : decode cX9_retell 108 = .ok (.iload 8, 2) := by decide +kernel
theorem dX9_retell_110 : decode cX9_retell 110 = .ok (.isub, 1) := by decide +kernel
theorem dX9_retell_111 : decode cX9_retell 111 = .ok (.i2l, 1) := by decide +kernel
theorem dX9_retell_112 : decode cX9_retell 112 = .ok (.ladd, 1) := by decide +kernel
theorem dX9_retell_113 : decode cX9_retell 113 = .ok (.lstore_n 3, 1) := by decide +kernel
theorem dX9_retell_114 : decode cX9_retell 114 = .ok (.aload_n 0, 1) := by decide +kernel
theorem dX9_retell_115 : decode cX9_retell 115 = .ok (.aload 7, 2) := by decide +kernel
theorem dX9_retell_117 : decode cX9_retell 117 = .ok (.aload 6, 2) := by decide +kernel
theorem dX9_retell_119 : decode cX9_retell 119 = .ok (.iload_n 2, 1) := by decide +kernel
theorem dX9_retell_120 : decode cX9_retell 120 = .ok (.invokevirtual 315, 3) := by decide +kernel
theorem dX9_retell_123 : decode cX9_retell 123 = .ok (.iinc 5 1, 3) := by decide +kernel
theorem dX9_retell_126 : decode cX9_retell 126 = .ok (.goto (-114), 3) := by decide +kernel
theorem dX9_retell_129 : decode cX9_retell 129 = .ok (.lload_n 3, 1) := by decide +kernel
theorem dX9_retell_130 : decode cX9_retell 130 = .ok (.lreturn, 1) := by decide +kernel
theorem dX9_surprise_0 : decode cX9_surprise 0 = .ok (.aload_n 0, 1) := by decide +kernel
theorem dX9_surprise_1 : decode cX9_surprise 1 = .ok (.iload_n 1, 1) := by decide +kernel
theorem dX9_surprise_2 : decode cX9_surprise 2 = .ok (.invokevirtual 104, 3) := by decide +kernel
theorem dX9_surprise_5 : decode cX9_surprise 5 = .ok (.ifnull 10, 3) := by decide +kernel
theorem dX9_surprise_8 : decode cX9_surprise 8 = .ok (.iload_n 2, 1) := by decide +kernel
theorem dX9_surprise_9 : decode cX9_surprise 9 = .ok (.invokestatic 97, 3) := by decide +kernel
theorem dX9_surprise_12 : decode cX9_surprise 12 = .ok (.ifCond .ne 7, 3) := by decide +kernel
theorem dX9_surprise_15 : decode cX9_surprise 15 = .ok (.ldc2_w 283, 3) := by decide +kernel
theorem dX9_surprise_18 : decode cX9_surprise 18 = .ok (.lreturn, 1) := by decide +kernel
theorem dX9_surprise_19 : decode cX9_surprise 19 = .ok (.aload_n 0, 1) := by decide +kernel
theorem dX9_surprise_20 : decode cX9_surprise 20 = .ok (.iload_n 1, 1) := by decide +kernel
theorem dX9_surprise_21 : decode cX9_surprise 21 = .ok (.iload_n 2, 1) := by decide +kernel
theorem dX9_surprise_22 : decode cX9_surprise 22 = .ok (.invokevirtual 285, 3) := by decide +kernel
theorem dX9_surprise_25 : decode cX9_surprise 25 = .ok (.lreturn, 1) := by decide +kernel
theorem dX9_better_0 : decode cX9_better 0 = .ok (.aload_n 0, 1) := by decide +kernel
theorem dX9_better_1 : decode cX9_better 1 = .ok (.iload_n 1, 1) := by decide +kernel
theorem dX9_better_2 : decode cX9_better 2 = .ok (.invokevirtual 104, 3) := by decide +kernel
theorem dX9_better_5 : decode cX9_better 5 = .ok (.ifnonnull 5, 3) := by decide +kernel
theorem dX9_better_8 : decode cX9_better 8 = .ok (.iconst (-1), 1) := by decide +kernel
theorem dX9_better_9 : decode cX9_better 9 = .ok (.ireturn, 1) := by decide +kernel
theorem dX9_better_10 : decode cX9_better 10 = .ok (.iconst 0, 1) := by decide +kernel
theorem dX9_better_11 : decode cX9_better 11 = .ok (.istore_n 2, 1) := by decide +kernel
theorem dX9_better_12 : decode cX9_better 12 = .ok (.aload_n 0, 1) := by decide +kernel
theorem dX9_better_13 : decode cX9_better 13 = .ok (.iload_n 1, 1) := by decide +kernel
theorem dX9_better_14 : decode cX9_better 14 = .ok (.iconst 0, 1) := by decide +kernel
theorem dX9_better_15 : decode cX9_better 15 = .ok (.invokevirtual 285, 3) := by decide +kernel
theorem dX9_better_18 : decode cX9_better 18 = .ok (.lstore_n 3, 1) := by decide +kernel
theorem dX9_better_19 : decode cX9_better 19 = .ok (.iconst 1, 1) := by decide +kernel
theorem dX9_better_20 : decode cX9_better 20 = .ok (.istore 5, 2) := by decide +kernel
theorem dX9_better_22 : decode cX9_better 22 = .ok (.iload 5, 2) := by decide +kernel
theorem dX9_better_24 : decode cX9_better 24 = .ok (.iconst 2, 1) := by decide +kernel
theorem dX9_better_25 : decode cX9_better 25 = .ok (.if_icmp .gt 31, 3) := by decide +kernel
theorem dX9_better_28 : decode cX9_better 28 = .ok (.aload_n 0, 1) := by decide +kernel
theorem dX9_better_29 : decode cX9_better 29 = .ok (.iload_n 1, 1) := by decide +kernel
theorem dX9_better_30 : decode cX9_better 30 = .ok (.iload 5, 2) := by decide +kernel
theorem dX9_better_32 : decode cX9_better 32 = .ok (.invokevirtual 285, 3) := by decide +kernel
theorem dX9_better_35 : decode cX9_better 35 = .ok (.lstore 6, 2) := by decide +kernel
theorem dX9_better_37 : decode cX9_better 37 = .ok (.lload 6, 2) := by decide +kernel
theorem dX9_better_39 : decode cX9_better 39 = .ok (.lload_n 3, 1) := by decide +kernel
theorem dX9_better_40 : decode cX9_better 40 = .ok (.lcmp, 1) := by decide +kernel
theorem dX9_better_41 : decode cX9_better 41 = .ok (.ifCond .ge 9, 3) := by decide +kernel
theorem dX9_better_44 : decode cX9_better 44 = .ok (.lload 6, 2) := by decide +kernel
theorem dX9_better_46 : decode cX9_better 46 = .ok (.lstore_n 3, 1) := by decide +kernel
theorem dX9_better_47 : decode cX9_better 47 = .ok (.iload 5, 2) := by decide +kernel
theorem dX9_better_49 : decode cX9_better 49 = .ok (.istore_n 2, 1) := by decide +kernel
theorem dX9_better_50 : decode cX9_better 50 = .ok (.iinc 5 1, 3) := by decide +kernel
theorem dX9_better_53 : decode cX9_better 53 = .ok (.goto (-31), 3) := by decide +kernel
theorem dX9_better_56 : decode cX9_better 56 = .ok (.iload_n 2, 1) := by decide +kernel
theorem dX9_better_57 : decode cX9_better 57 = .ok (.ireturn, 1) := by decide +kernel
theorem dX9_other_0 : decode cX9_other 0 = .ok (.aload_n 0, 1) := by decide +kernel
theorem dX9_other_1 : decode cX9_other 1 = .ok (.getfield 30, 3) := by decide +kernel
theorem dX9_other_4 : decode cX9_other 4 = .ok (.iload_n 3, 1) := by decide +kernel
theorem dX9_other_5 : decode cX9_other 5 = .ok (.iload 4, 2) := by decide +kernel
theorem dX9_other_7 : decode cX9_other 7 = .ok (.invokevirtual 229, 3) := by decide +kernel
theorem dX9_other_10 : decode cX9_other 10 = .ok (.astore 5, 2) := by decide +kernel
theorem dX9_other_12 : decode cX9_other 12 = .ok (.aload_n 0, 1) := by decide +kernel
theorem dX9_other_13 : decode cX9_other 13 = .ok (.iload_n 1, 1) := by decide +kernel
theorem dX9_other_14 : decode cX9_other 14 = .ok (.invokevirtual 104, 3) := by decide +kernel
theorem dX9_other_17 : decode cX9_other 17 = .ok (.ifnull 15, 3) := by decide +kernel
theorem dX9_other_20 : decode cX9_other 20 = .ok (.iload_n 2, 1) := by decide +kernel
theorem dX9_other_21 : decode cX9_other 21 = .ok (.invokestatic 97, 3) := by decide +kernel
theorem dX9_other_24 : decode cX9_other 24 = .ok (.ifCond .eq 8, 3) := by decide +kernel
theorem dX9_other_27 : decode cX9_other 27 = .ok (.aload 5, 2) := by decide +kernel
theorem dX9_other_29 : decode cX9_other 29 = .ok (.ifnonnull 5, 3) := by decide +kernel
theorem dX9_other_32 : decode cX9_other 32 = .ok (.iconst (-1), 1) := by decide +kernel
theorem dX9_other_33 : decode cX9_other 33 = .ok (.ireturn, 1) := by decide +kernel
theorem dX9_other_34 : decode cX9_other 34 = .ok (.aload_n 0, 1) := by decide +kernel
theorem dX9_other_35 : decode cX9_other 35 = .ok (.iload_n 1, 1) := by decide +kernel
theorem dX9_other_36 : decode cX9_other 36 = .ok (.iload_n 2, 1) := by decide +kernel
theorem dX9_other_37 : decode cX9_other 37 = .ok (.invokevirtual 285, 3) := by decide +kernel
theorem dX9_other_40 : decode cX9_other 40 = .ok (.pop2, 1) := by decide +kernel
theorem dX9_other_41 : decode cX9_other 41 = .ok (.aload 5, 2) := by decide +kernel
theorem dX9_other_43 : decode cX9_other 43 = .ok (.getfield 289, 3) := by decide +kernel
theorem dX9_other_46 : decode cX9_other 46 = .ok (.ireturn, 1) := by decide +kernel
theorem dX9_check_0 : decode cX9_check 0 = .ok (.aload_n 0, 1) := by decide +kernel
theorem dX9_check_1 : decode cX9_check 1 = .ok (.iload_n 1, 1) := by decide +kernel
theorem dX9_check_2 : decode cX9_check 2 = .ok (.invokevirtual 104, 3) := by decide +kernel
theorem dX9_check_5 : decode cX9_check 5 = .ok (.astore_n 2, 1) := by decide +kernel
theorem dX9_check_6 : decode cX9_check 6 = .ok (.aload_n 2, 1) := by decide +kernel
theorem dX9_check_7 : decode cX9_check 7 = .ok (.ifnonnull 5, 3) := by decide +kernel
theorem dX9_check_10 : decode cX9_check 10 = .ok (.iconst (-1), 1) := by decide +kernel
theorem dX9_check_11 : decode cX9_check 11 = .ok (.ireturn, 1) := by decide +kernel
theorem dX9_check_12 : decode cX9_check 12 = .ok (.aload_n 0, 1) := by decide +kernel
theorem dX9_check_13 : decode cX9_check 13 = .ok (.iload_n 1, 1) := by decide +kernel
theorem dX9_check_14 : decode cX9_check 14 = .ok (.iconst 3, 1) := by decide +kernel
theorem dX9_check_15 : decode cX9_check 15 = .ok (.invokevirtual 285, 3) := by decide +kernel
theorem dX9_check_18 : decode cX9_check 18 = .ok (.pop2, 1) := by decide +kernel
theorem dX9_check_19 : decode cX9_check 19 = .ok (.aload_n 2, 1) := by decide +kernel
theorem dX9_check_20 : decode cX9_check 20 = .ok (.aload_n 0, 1) := by decide +kernel
theorem dX9_check_21 : decode cX9_check 21 = .ok (.getfield 30, 3) := by decide +kernel
theorem dX9_check_24 : decode cX9_check 24 = .ok (.invokevirtual 292, 3) := by decide +kernel
theorem dX9_check_27 : decode cX9_check 27 = .ok (.ifCond .eq 7, 3) := by decide +kernel
theorem dX9_check_30 : decode cX9_check 30 = .ok (.iconst 1, 1) := by decide +kernel
theorem dX9_check_31 : decode cX9_check 31 = .ok (.goto 4, 3) := by decide +kernel
theorem dX9_check_34 : decode cX9_check 34 = .ok (.iconst 0, 1) := by decide +kernel
theorem dX9_check_35 : decode cX9_check 35 = .ok (.ireturn, 1) := by decide +kernel
