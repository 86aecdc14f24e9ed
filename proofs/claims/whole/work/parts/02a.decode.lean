theorem d_A_init_0 : decode b_A_init 0 = .ok (.aload_n 0, 1) := by decide +kernel
theorem d_A_init_1 : decode b_A_init 1 = .ok (.invokespecial 1, 3) := by decide +kernel
theorem d_A_init_4 : decode b_A_init 4 = .ok (.aload_n 0, 1) := by decide +kernel
theorem d_A_init_5 : decode b_A_init 5 = .ok (.new 7, 3) := by decide +kernel
theorem d_A_init_8 : decode b_A_init 8 = .ok (.dup, 1) := by decide +kernel
theorem d_A_init_9 : decode b_A_init 9 = .ok (.invokespecial 9, 3) := by decide +kernel
theorem d_A_init_12 : decode b_A_init 12 = .ok (.putfield 10, 3) := by decide +kernel
theorem d_A_init_15 : decode b_A_init 15 = .ok (.aload_n 0, 1) := by decide +kernel
theorem d_A_init_16 : decode b_A_init 16 = .ok (.new 16, 3) := by decide +kernel
theorem d_A_init_19 : decode b_A_init 19 = .ok (.dup, 1) := by decide +kernel
theorem d_A_init_20 : decode b_A_init 20 = .ok (.invokespecial 18, 3) := by decide +kernel
theorem d_A_init_23 : decode b_A_init 23 = .ok (.putfield 19, 3) := by decide +kernel
theorem d_A_init_26 : decode b_A_init 26 = .ok (.aload_n 0, 1) := by decide +kernel
theorem d_A_init_27 : decode b_A_init 27 = .ok (.new 23, 3) := by decide +kernel
theorem d_A_init_30 : decode b_A_init 30 = .ok (.dup, 1) := by decide +kernel
theorem d_A_init_31 : decode b_A_init 31 = .ok (.invokespecial 25, 3) := by decide +kernel
theorem d_A_init_34 : decode b_A_init 34 = .ok (.putfield 26, 3) := by decide +kernel
theorem d_A_init_37 : decode b_A_init 37 = .ok (.aload_n 0, 1) := by decide +kernel
theorem d_A_init_38 : decode b_A_init 38 = .ok (.iconst 0, 1) := by decide +kernel
theorem d_A_init_39 : decode b_A_init 39 = .ok (.putfield 30, 3) := by decide +kernel
theorem d_A_init_42 : decode b_A_init 42 = .ok (.aload_n 0, 1) := by decide +kernel
theorem d_A_init_43 : decode b_A_init 43 = .ok (.iconst 0, 1) := by decide +kernel
theorem d_A_init_44 : decode b_A_init 44 = .ok (.putfield 34, 3) := by decide +kernel
theorem d_A_init_47 : decode b_A_init 47 = .ok (.return_, 1) := by decide +kernel
theorem d_A_put_0 : decode b_A_put 0 = .ok (.iload_n 3, 1) := by decide +kernel
theorem d_A_put_1 : decode b_A_put 1 = .ok (.iconst 1, 1) := by decide +kernel
theorem d_A_put_2 : decode b_A_put 2 = .ok (.iconst 4, 1) := by decide +kernel
theorem d_A_put_3 : decode b_A_put 3 = .ok (.invokestatic 40, 3) := by decide +kernel
theorem d_A_put_6 : decode b_A_put 6 = .ok (.iload 6, 2) := by decide +kernel
theorem d_A_put_8 : decode b_A_put 8 = .ok (.iconst 0, 1) := by decide +kernel
theorem d_A_put_9 : decode b_A_put 9 = .ok (.bipush 8, 2) := by decide +kernel
theorem d_A_put_11 : decode b_A_put 11 = .ok (.invokestatic 40, 3) := by decide +kernel
theorem d_A_put_14 : decode b_A_put 14 = .ok (.aload_n 0, 1) := by decide +kernel
theorem d_A_put_15 : decode b_A_put 15 = .ok (.invokevirtual 44, 3) := by decide +kernel
theorem d_A_put_18 : decode b_A_put 18 = .ok (.aload_n 0, 1) := by decide +kernel
theorem d_A_put_19 : decode b_A_put 19 = .ok (.lload_n 1, 1) := by decide +kernel
theorem d_A_put_20 : decode b_A_put 20 = .ok (.iload_n 3, 1) := by decide +kernel
theorem d_A_put_21 : decode b_A_put 21 = .ok (.invokestatic 47, 3) := by decide +kernel
theorem d_A_put_24 : decode b_A_put 24 = .ok (.lload 4, 2) := by decide +kernel
theorem d_A_put_26 : decode b_A_put 26 = .ok (.iload 6, 2) := by decide +kernel
theorem d_A_put_28 : decode b_A_put 28 = .ok (.invokevirtual 53, 3) := by decide +kernel
theorem d_A_put_31 : decode b_A_put 31 = .ok (.return_, 1) := by decide +kernel
theorem d_A_delete_0 : decode b_A_delete 0 = .ok (.iload_n 3, 1) := by decide +kernel
theorem d_A_delete_1 : decode b_A_delete 1 = .ok (.iconst 1, 1) := by decide +kernel
theorem d_A_delete_2 : decode b_A_delete 2 = .ok (.iconst 4, 1) := by decide +kernel
theorem d_A_delete_3 : decode b_A_delete 3 = .ok (.invokestatic 40, 3) := by decide +kernel
theorem d_A_delete_6 : decode b_A_delete 6 = .ok (.aload_n 0, 1) := by decide +kernel
theorem d_A_delete_7 : decode b_A_delete 7 = .ok (.invokevirtual 44, 3) := by decide +kernel
theorem d_A_delete_10 : decode b_A_delete 10 = .ok (.lload_n 1, 1) := by decide +kernel
theorem d_A_delete_11 : decode b_A_delete 11 = .ok (.iload_n 3, 1) := by decide +kernel
theorem d_A_delete_12 : decode b_A_delete 12 = .ok (.invokestatic 47, 3) := by decide +kernel
theorem d_A_delete_15 : decode b_A_delete 15 = .ok (.lstore 4, 2) := by decide +kernel
theorem d_A_delete_17 : decode b_A_delete 17 = .ok (.aload_n 0, 1) := by decide +kernel
theorem d_A_delete_18 : decode b_A_delete 18 = .ok (.getfield 19, 3) := by decide +kernel
theorem d_A_delete_21 : decode b_A_delete 21 = .ok (.lload 4, 2) := by decide +kernel
theorem d_A_delete_23 : decode b_A_delete 23 = .ok (.invokevirtual 57, 3) := by decide +kernel
theorem d_A_delete_26 : decode b_A_delete 26 = .ok (.ifnonnull 5, 3) := by decide +kernel
theorem d_A_delete_29 : decode b_A_delete 29 = .ok (.iconst 0, 1) := by decide +kernel
theorem d_A_delete_30 : decode b_A_delete 30 = .ok (.ireturn, 1) := by decide +kernel
theorem d_A_delete_31 : decode b_A_delete 31 = .ok (.aload_n 0, 1) := by decide +kernel
theorem d_A_delete_32 : decode b_A_delete 32 = .ok (.lload 4, 2) := by decide +kernel
theorem d_A_delete_34 : decode b_A_delete 34 = .ok (.lconst 0, 1) := by decide +kernel
theorem d_A_delete_35 : decode b_A_delete 35 = .ok (.sipush 255, 3) := by decide +kernel
theorem d_A_delete_38 : decode b_A_delete 38 = .ok (.invokevirtual 53, 3) := by decide +kernel
theorem d_A_delete_41 : decode b_A_delete 41 = .ok (.iconst 1, 1) := by decide +kernel
theorem d_A_delete_42 : decode b_A_delete 42 = .ok (.ireturn, 1) := by decide +kernel
theorem d_A_get_0 : decode b_A_get 0 = .ok (.iload_n 3, 1) := by decide +kernel
theorem d_A_get_1 : decode b_A_get 1 = .ok (.iconst 1, 1) := by decide +kernel
theorem d_A_get_2 : decode b_A_get 2 = .ok (.iconst 4, 1) := by decide +kernel
theorem d_A_get_3 : decode b_A_get 3 = .ok (.invokestatic 40, 3) := by decide +kernel
theorem d_A_get_6 : decode b_A_get 6 = .ok (.aload_n 0, 1) := by decide +kernel
theorem d_A_get_7 : decode b_A_get 7 = .ok (.invokevirtual 44, 3) := by decide +kernel
theorem d_A_get_10 : decode b_A_get 10 = .ok (.aload_n 0, 1) := by decide +kernel
theorem d_A_get_11 : decode b_A_get 11 = .ok (.getfield 19, 3) := by decide +kernel
theorem d_A_get_14 : decode b_A_get 14 = .ok (.lload_n 1, 1) := by decide +kernel
theorem d_A_get_15 : decode b_A_get 15 = .ok (.iload_n 3, 1) := by decide +kernel
theorem d_A_get_16 : decode b_A_get 16 = .ok (.invokestatic 47, 3) := by decide +kernel
theorem d_A_get_19 : decode b_A_get 19 = .ok (.invokevirtual 57, 3) := by decide +kernel
theorem d_A_get_22 : decode b_A_get 22 = .ok (.astore 4, 2) := by decide +kernel
theorem d_A_get_24 : decode b_A_get 24 = .ok (.aload 4, 2) := by decide +kernel
theorem d_A_get_26 : decode b_A_get 26 = .ok (.ifnonnull 13, 3) := by decide +kernel
theorem d_A_get_29 : decode b_A_get 29 = .ok (.new 61, 3) := by decide +kernel
theorem d_A_get_32 : decode b_A_get 32 = .ok (.dup, 1) := by decide +kernel
theorem d_A_get_33 : decode b_A_get 33 = .ok (.ldc 63, 2) := by decide +kernel
theorem d_A_get_35 : decode b_A_get 35 = .ok (.invokespecial 65, 3) := by decide +kernel
theorem d_A_get_38 : decode b_A_get 38 = .ok (.athrow, 1) := by decide +kernel
theorem d_A_get_39 : decode b_A_get 39 = .ok (.aload 4, 2) := by decide +kernel
theorem d_A_get_41 : decode b_A_get 41 = .ok (.invokevirtual 68, 3) := by decide +kernel
theorem d_A_get_44 : decode b_A_get 44 = .ok (.ifCond .eq 13, 3) := by decide +kernel
theorem d_A_get_47 : decode b_A_get 47 = .ok (.new 74, 3) := by decide +kernel
theorem d_A_get_50 : decode b_A_get 50 = .ok (.dup, 1) := by decide +kernel
theorem d_A_get_51 : decode b_A_get 51 = .ok (.ldc 76, 2) := by decide +kernel
theorem d_A_get_53 : decode b_A_get 53 = .ok (.invokespecial 78, 3) := by decide +kernel
theorem d_A_get_56 : decode b_A_get 56 = .ok (.athrow, 1) := by decide +kernel
theorem d_A_get_57 : decode b_A_get 57 = .ok (.aload 4, 2) := by decide +kernel
theorem d_A_get_59 : decode b_A_get 59 = .ok (.invokevirtual 79, 3) := by decide +kernel
theorem d_A_get_62 : decode b_A_get 62 = .ok (.lreturn, 1) := by decide +kernel
theorem d_A_keys_0 : decode b_A_keys 0 = .ok (.aload_n 0, 1) := by decide +kernel
theorem d_A_keys_1 : decode b_A_keys 1 = .ok (.invokevirtual 44, 3) := by decide +kernel
theorem d_A_keys_4 : decode b_A_keys 4 = .ok (.aload_n 0, 1) := by decide +kernel
theorem d_A_keys_5 : decode b_A_keys 5 = .ok (.getfield 19, 3) := by decide +kernel
theorem d_A_keys_8 : decode b_A_keys 8 = .ok (.invokevirtual 83, 3) := by decide +kernel
theorem d_A_keys_11 : decode b_A_keys 11 = .ok (.ireturn, 1) := by decide +kernel
theorem d_A_key_0 : decode b_A_key 0 = .ok (.iload_n 2, 1) := by decide +kernel
theorem d_A_key_1 : decode b_A_key 1 = .ok (.iconst 0, 1) := by decide +kernel
theorem d_A_key_2 : decode b_A_key 2 = .ok (.iconst 3, 1) := by decide +kernel
theorem d_A_key_3 : decode b_A_key 3 = .ok (.invokestatic 40, 3) := by decide +kernel
theorem d_A_key_6 : decode b_A_key 6 = .ok (.aload_n 0, 1) := by decide +kernel
theorem d_A_key_7 : decode b_A_key 7 = .ok (.invokevirtual 44, 3) := by decide +kernel
theorem d_A_key_10 : decode b_A_key 10 = .ok (.aload_n 0, 1) := by decide +kernel
theorem d_A_key_11 : decode b_A_key 11 = .ok (.getfield 19, 3) := by decide +kernel
theorem d_A_key_14 : decode b_A_key 14 = .ok (.iload_n 1, 1) := by decide +kernel
theorem d_A_key_15 : decode b_A_key 15 = .ok (.invokevirtual 87, 3) := by decide +kernel
theorem d_A_key_18 : decode b_A_key 18 = .ok (.astore_n 3, 1) := by decide +kernel
theorem d_A_key_19 : decode b_A_key 19 = .ok (.aload_n 3, 1) := by decide +kernel
theorem d_A_key_20 : decode b_A_key 20 = .ok (.ifnonnull 13, 3) := by decide +kernel
theorem d_A_key_23 : decode b_A_key 23 = .ok (.new 61, 3) := by decide +kernel
theorem d_A_key_26 : decode b_A_key 26 = .ok (.dup, 1) := by decide +kernel
theorem d_A_key_27 : decode b_A_key 27 = .ok (.ldc 91, 2) := by decide +kernel
theorem d_A_key_29 : decode b_A_key 29 = .ok (.invokespecial 65, 3) := by decide +kernel
theorem d_A_key_32 : decode b_A_key 32 = .ok (.athrow, 1) := by decide +kernel
theorem d_A_key_33 : decode b_A_key 33 = .ok (.iload_n 2, 1) := by decide +kernel
theorem d_A_key_34 : decode b_A_key 34 = .ok (.tableswitch 49 0 2 #[26, 35, 43], 26) := by decide +kernel
theorem d_A_key_60 : decode b_A_key 60 = .ok (.aload_n 3, 1) := by decide +kernel
theorem d_A_key_61 : decode b_A_key 61 = .ok (.getfield 93, 3) := by decide +kernel
theorem d_A_key_64 : decode b_A_key 64 = .ok (.invokestatic 96, 3) := by decide +kernel
theorem d_A_key_67 : decode b_A_key 67 = .ok (.i2l, 1) := by decide +kernel
theorem d_A_key_68 : decode b_A_key 68 = .ok (.lreturn, 1) := by decide +kernel
theorem d_A_key_69 : decode b_A_key 69 = .ok (.aload_n 3, 1) := by decide +kernel
theorem d_A_key_70 : decode b_A_key 70 = .ok (.getfield 93, 3) := by decide +kernel
theorem d_A_key_73 : decode b_A_key 73 = .ok (.invokestatic 100, 3) := by decide +kernel
theorem d_A_key_76 : decode b_A_key 76 = .ok (.lreturn, 1) := by decide +kernel
theorem d_A_key_77 : decode b_A_key 77 = .ok (.aload_n 3, 1) := by decide +kernel
theorem d_A_key_78 : decode b_A_key 78 = .ok (.invokevirtual 104, 3) := by decide +kernel
theorem d_A_key_81 : decode b_A_key 81 = .ok (.i2l, 1) := by decide +kernel
theorem d_A_key_82 : decode b_A_key 82 = .ok (.lreturn, 1) := by decide +kernel
theorem d_A_key_83 : decode b_A_key 83 = .ok (.aload_n 3, 1) := by decide +kernel
theorem d_A_key_84 : decode b_A_key 84 = .ok (.getfield 107, 3) := by decide +kernel
theorem d_A_key_87 : decode b_A_key 87 = .ok (.i2l, 1) := by decide +kernel
theorem d_A_key_88 : decode b_A_key 88 = .ok (.lreturn, 1) := by decide +kernel
theorem d_A_sync_0 : decode b_A_sync 0 = .ok (.aload_n 0, 1) := by decide +kernel
theorem d_A_sync_1 : decode b_A_sync 1 = .ok (.invokevirtual 44, 3) := by decide +kernel
theorem d_A_sync_4 : decode b_A_sync 4 = .ok (.aload_n 0, 1) := by decide +kernel
theorem d_A_sync_5 : decode b_A_sync 5 = .ok (.getfield 10, 3) := by decide +kernel
theorem d_A_sync_8 : decode b_A_sync 8 = .ok (.invokevirtual 110, 3) := by decide +kernel
theorem d_A_sync_11 : decode b_A_sync 11 = .ok (.return_, 1) := by decide +kernel
theorem d_A_lose_0 : decode b_A_lose 0 = .ok (.iload_n 1, 1) := by decide +kernel
theorem d_A_lose_1 : decode b_A_lose 1 = .ok (.iconst 0, 1) := by decide +kernel
theorem d_A_lose_2 : decode b_A_lose 2 = .ok (.bipush 100, 2) := by decide +kernel
theorem d_A_lose_4 : decode b_A_lose 4 = .ok (.invokestatic 40, 3) := by decide +kernel
theorem d_A_lose_7 : decode b_A_lose 7 = .ok (.aload_n 0, 1) := by decide +kernel
theorem d_A_lose_8 : decode b_A_lose 8 = .ok (.getfield 10, 3) := by decide +kernel
theorem d_A_lose_11 : decode b_A_lose 11 = .ok (.iload_n 1, 1) := by decide +kernel
theorem d_A_lose_12 : decode b_A_lose 12 = .ok (.invokevirtual 113, 3) := by decide +kernel
theorem d_A_lose_15 : decode b_A_lose 15 = .ok (.aload_n 0, 1) := by decide +kernel
theorem d_A_lose_16 : decode b_A_lose 16 = .ok (.getfield 26, 3) := by decide +kernel
theorem d_A_lose_19 : decode b_A_lose 19 = .ok (.invokevirtual 117, 3) := by decide +kernel
theorem d_A_lose_22 : decode b_A_lose 22 = .ok (.aload_n 0, 1) := by decide +kernel
theorem d_A_lose_23 : decode b_A_lose 23 = .ok (.iconst 1, 1) := by decide +kernel
theorem d_A_lose_24 : decode b_A_lose 24 = .ok (.putfield 34, 3) := by decide +kernel
theorem d_A_lose_27 : decode b_A_lose 27 = .ok (.return_, 1) := by decide +kernel
theorem d_A_open_0 : decode b_A_open 0 = .ok (.aload_n 0, 1) := by decide +kernel
theorem d_A_open_1 : decode b_A_open 1 = .ok (.getfield 26, 3) := by decide +kernel
theorem d_A_open_4 : decode b_A_open 4 = .ok (.invokevirtual 117, 3) := by decide +kernel
theorem d_A_open_7 : decode b_A_open 7 = .ok (.aload_n 0, 1) := by decide +kernel
theorem d_A_open_8 : decode b_A_open 8 = .ok (.getfield 19, 3) := by decide +kernel
theorem d_A_open_11 : decode b_A_open 11 = .ok (.invokevirtual 120, 3) := by decide +kernel
theorem d_A_open_14 : decode b_A_open 14 = .ok (.aload_n 0, 1) := by decide +kernel
theorem d_A_open_15 : decode b_A_open 15 = .ok (.getfield 10, 3) := by decide +kernel
theorem d_A_open_18 : decode b_A_open 18 = .ok (.invokevirtual 123, 3) := by decide +kernel
theorem d_A_open_21 : decode b_A_open 21 = .ok (.iconst 0, 1) := by decide +kernel
theorem d_A_open_22 : decode b_A_open 22 = .ok (.istore_n 2, 1) := by decide +kernel
theorem d_A_open_23 : decode b_A_open 23 = .ok (.iload_n 2, 1) := by decide +kernel
theorem d_A_open_24 : decode b_A_open 24 = .ok (.aload_n 0, 1) := by decide +kernel
theorem d_A_open_25 : decode b_A_open 25 = .ok (.getfield 10, 3) := by decide +kernel
theorem d_A_open_28 : decode b_A_open 28 = .ok (.invokevirtual 126, 3) := by decide +kernel
theorem d_A_open_31 : decode b_A_open 31 = .ok (.if_icmp .ge 32, 3) := by decide +kernel
theorem d_A_open_34 : decode b_A_open 34 = .ok (.aload_n 0, 1) := by decide +kernel
theorem d_A_open_35 : decode b_A_open 35 = .ok (.getfield 10, 3) := by decide +kernel
theorem d_A_open_38 : decode b_A_open 38 = .ok (.iload_n 2, 1) := by decide +kernel
theorem d_A_open_39 : decode b_A_open 39 = .ok (.invokevirtual 127, 3) := by decide +kernel
theorem d_A_open_42 : decode b_A_open 42 = .ok (.astore_n 3, 1) := by decide +kernel
theorem d_A_open_43 : decode b_A_open 43 = .ok (.aload_n 3, 1) := by decide +kernel
theorem d_A_open_44 : decode b_A_open 44 = .ok (.ifnull 13, 3) := by decide +kernel
theorem d_A_open_47 : decode b_A_open 47 = .ok (.aload_n 3, 1) := by decide +kernel
theorem d_A_open_48 : decode b_A_open 48 = .ok (.iload_n 1, 1) := by decide +kernel
theorem d_A_open_49 : decode b_A_open 49 = .ok (.invokevirtual 130, 3) := by decide +kernel
theorem d_A_open_52 : decode b_A_open 52 = .ok (.aload_n 0, 1) := by decide +kernel
theorem d_A_open_53 : decode b_A_open 53 = .ok (.aload_n 3, 1) := by decide +kernel
theorem d_A_open_54 : decode b_A_open 54 = .ok (.invokevirtual 136, 3) := by decide +kernel
theorem d_A_open_57 : decode b_A_open 57 = .ok (.iinc 2 1, 3) := by decide +kernel
theorem d_A_open_60 : decode b_A_open 60 = .ok (.goto (-37), 3) := by decide +kernel
theorem d_A_open_63 : decode b_A_open 63 = .ok (.aload_n 0, 1) := by decide +kernel
theorem d_A_open_64 : decode b_A_open 64 = .ok (.iconst 0, 1) := by decide +kernel
theorem d_A_open_65 : decode b_A_open 65 = .ok (.putfield 34, 3) := by decide +kernel
theorem d_A_open_68 : decode b_A_open 68 = .ok (.aload_n 0, 1) := by decide +kernel
theorem d_A_open_69 : decode b_A_open 69 = .ok (.getfield 19, 3) := by decide +kernel
theorem d_A_open_72 : decode b_A_open 72 = .ok (.invokevirtual 83, 3) := by decide +kernel
theorem d_A_open_75 : decode b_A_open 75 = .ok (.ireturn, 1) := by decide +kernel
theorem d_A_merge_0 : decode b_A_merge 0 = .ok (.iload_n 1, 1) := by decide +kernel
theorem d_A_merge_1 : decode b_A_merge 1 = .ok (.iconst 1, 1) := by decide +kernel
theorem d_A_merge_2 : decode b_A_merge 2 = .ok (.bipush 20, 2) := by decide +kernel
theorem d_A_merge_4 : decode b_A_merge 4 = .ok (.invokestatic 40, 3) := by decide +kernel
theorem d_A_merge_7 : decode b_A_merge 7 = .ok (.aload_n 0, 1) := by decide +kernel
theorem d_A_merge_8 : decode b_A_merge 8 = .ok (.invokevirtual 44, 3) := by decide +kernel
theorem d_A_merge_11 : decode b_A_merge 11 = .ok (.aload_n 0, 1) := by decide +kernel
theorem d_A_merge_12 : decode b_A_merge 12 = .ok (.getfield 26, 3) := by decide +kernel
theorem d_A_merge_15 : decode b_A_merge 15 = .ok (.invokevirtual 140, 3) := by decide +kernel
theorem d_A_merge_18 : decode b_A_merge 18 = .ok (.ifCond .ne 37, 3) := by decide +kernel
theorem d_A_merge_21 : decode b_A_merge 21 = .ok (.aload_n 0, 1) := by decide +kernel
theorem d_A_merge_22 : decode b_A_merge 22 = .ok (.getfield 10, 3) := by decide +kernel
theorem d_A_merge_25 : decode b_A_merge 25 = .ok (.invokevirtual 143, 3) := by decide +kernel
theorem d_A_merge_28 : decode b_A_merge 28 = .ok (.ifCond .ne 13, 3) := by decide +kernel
theorem d_A_merge_31 : decode b_A_merge 31 = .ok (.new 146, 3) := by decide +kernel
theorem d_A_merge_34 : decode b_A_merge 34 = .ok (.dup, 1) := by decide +kernel
theorem d_A_merge_35 : decode b_A_merge 35 = .ok (.ldc 148, 2) := by decide +kernel
theorem d_A_merge_37 : decode b_A_merge 37 = .ok (.invokespecial 150, 3) := by decide +kernel
theorem d_A_merge_40 : decode b_A_merge 40 = .ok (.athrow, 1) := by decide +kernel
theorem d_A_merge_41 : decode b_A_merge 41 = .ok (.aload_n 0, 1) := by decide +kernel
theorem d_A_merge_42 : decode b_A_merge 42 = .ok (.getfield 26, 3) := by decide +kernel
theorem d_A_merge_45 : decode b_A_merge 45 = .ok (.aload_n 0, 1) := by decide +kernel
theorem d_A_merge_46 : decode b_A_merge 46 = .ok (.getfield 10, 3) := by decide +kernel
theorem d_A_merge_49 : decode b_A_merge 49 = .ok (.invokevirtual 143, 3) := by decide +kernel
theorem d_A_merge_52 : decode b_A_merge 52 = .ok (.invokevirtual 151, 3) := by decide +kernel
theorem d_A_merge_55 : decode b_A_merge 55 = .ok (.aload_n 0, 1) := by decide +kernel
theorem d_A_merge_56 : decode b_A_merge 56 = .ok (.getfield 26, 3) := by decide +kernel
theorem d_A_merge_59 : decode b_A_merge 59 = .ok (.iload_n 1, 1) := by decide +kernel
theorem d_A_merge_60 : decode b_A_merge 60 = .ok (.aload_n 0, 1) := by decide +kernel
theorem d_A_merge_61 : decode b_A_merge 61 = .ok (.getfield 10, 3) := by decide +kernel
theorem d_A_merge_64 : decode b_A_merge 64 = .ok (.aload_n 0, 1) := by decide +kernel
theorem d_A_merge_65 : decode b_A_merge 65 = .ok (.getfield 19, 3) := by decide +kernel
theorem d_A_merge_68 : decode b_A_merge 68 = .ok (.invokevirtual 154, 3) := by decide +kernel
theorem d_A_merge_71 : decode b_A_merge 71 = .ok (.aload_n 0, 1) := by decide +kernel
theorem d_A_merge_72 : decode b_A_merge 72 = .ok (.getfield 26, 3) := by decide +kernel
theorem d_A_merge_75 : decode b_A_merge 75 = .ok (.aload_n 0, 1) := by decide +kernel
theorem d_A_merge_76 : decode b_A_merge 76 = .ok (.getfield 10, 3) := by decide +kernel
theorem d_A_merge_79 : decode b_A_merge 79 = .ok (.invokevirtual 158, 3) := by decide +kernel
theorem d_A_merge_82 : decode b_A_merge 82 = .ok (.ifCond .ne 5, 3) := by decide +kernel
theorem d_A_merge_85 : decode b_A_merge 85 = .ok (.iconst 0, 1) := by decide +kernel
theorem d_A_merge_86 : decode b_A_merge 86 = .ok (.ireturn, 1) := by decide +kernel
theorem d_A_merge_87 : decode b_A_merge 87 = .ok (.aload_n 0, 1) := by decide +kernel
theorem d_A_merge_88 : decode b_A_merge 88 = .ok (.getfield 26, 3) := by decide +kernel
theorem d_A_merge_91 : decode b_A_merge 91 = .ok (.aload_n 0, 1) := by decide +kernel
theorem d_A_merge_92 : decode b_A_merge 92 = .ok (.getfield 10, 3) := by decide +kernel
theorem d_A_merge_95 : decode b_A_merge 95 = .ok (.aload_n 0, 1) := by decide +kernel
theorem d_A_merge_96 : decode b_A_merge 96 = .ok (.getfield 19, 3) := by decide +kernel
theorem d_A_merge_99 : decode b_A_merge 99 = .ok (.invokevirtual 162, 3) := by decide +kernel
theorem d_A_merge_102 : decode b_A_merge 102 = .ok (.iconst 1, 1) := by decide +kernel
theorem d_A_merge_103 : decode b_A_merge 103 = .ok (.ireturn, 1) := by decide +kernel
theorem d_A_files_0 : decode b_A_files 0 = .ok (.aload_n 0, 1) := by decide +kernel
theorem d_A_files_1 : decode b_A_files 1 = .ok (.getfield 10, 3) := by decide +kernel
theorem d_A_files_4 : decode b_A_files 4 = .ok (.invokevirtual 126, 3) := by decide +kernel
theorem d_A_files_7 : decode b_A_files 7 = .ok (.ireturn, 1) := by decide +kernel
theorem d_A_file_0 : decode b_A_file 0 = .ok (.iload_n 2, 1) := by decide +kernel
theorem d_A_file_1 : decode b_A_file 1 = .ok (.iconst 0, 1) := by decide +kernel
theorem d_A_file_2 : decode b_A_file 2 = .ok (.iconst 4, 1) := by decide +kernel
theorem d_A_file_3 : decode b_A_file 3 = .ok (.invokestatic 40, 3) := by decide +kernel
theorem d_A_file_6 : decode b_A_file 6 = .ok (.aload_n 0, 1) := by decide +kernel
theorem d_A_file_7 : decode b_A_file 7 = .ok (.getfield 10, 3) := by decide +kernel
theorem d_A_file_10 : decode b_A_file 10 = .ok (.iload_n 1, 1) := by decide +kernel
theorem d_A_file_11 : decode b_A_file 11 = .ok (.invokevirtual 127, 3) := by decide +kernel
theorem d_A_file_14 : decode b_A_file 14 = .ok (.astore_n 3, 1) := by decide +kernel
theorem d_A_file_15 : decode b_A_file 15 = .ok (.aload_n 3, 1) := by decide +kernel
theorem d_A_file_16 : decode b_A_file 16 = .ok (.ifnonnull 13, 3) := by decide +kernel
theorem d_A_file_19 : decode b_A_file 19 = .ok (.new 166, 3) := by decide +kernel
theorem d_A_file_22 : decode b_A_file 22 = .ok (.dup, 1) := by decide +kernel
theorem d_A_file_23 : decode b_A_file 23 = .ok (.ldc 168, 2) := by decide +kernel
theorem d_A_file_25 : decode b_A_file 25 = .ok (.invokespecial 170, 3) := by decide +kernel
theorem d_A_file_28 : decode b_A_file 28 = .ok (.athrow, 1) := by decide +kernel
theorem d_A_file_29 : decode b_A_file 29 = .ok (.iload_n 2, 1) := by decide +kernel
theorem d_A_file_30 : decode b_A_file 30 = .ok (.tableswitch 68 0 3 #[30, 35, 43, 48], 30) := by decide +kernel
theorem d_A_file_60 : decode b_A_file 60 = .ok (.aload_n 3, 1) := by decide +kernel
theorem d_A_file_61 : decode b_A_file 61 = .ok (.invokevirtual 171, 3) := by decide +kernel
theorem d_A_file_64 : decode b_A_file 64 = .ok (.ireturn, 1) := by decide +kernel
theorem d_A_file_65 : decode b_A_file 65 = .ok (.aload_n 3, 1) := by decide +kernel
theorem d_A_file_66 : decode b_A_file 66 = .ok (.invokevirtual 173, 3) := by decide +kernel
theorem d_A_file_69 : decode b_A_file 69 = .ok (.invokevirtual 177, 3) := by decide +kernel
theorem d_A_file_72 : decode b_A_file 72 = .ok (.ireturn, 1) := by decide +kernel
theorem d_A_file_73 : decode b_A_file 73 = .ok (.aload_n 3, 1) := by decide +kernel
theorem d_A_file_74 : decode b_A_file 74 = .ok (.invokevirtual 181, 3) := by decide +kernel
theorem d_A_file_77 : decode b_A_file 77 = .ok (.ireturn, 1) := by decide +kernel
theorem d_A_file_78 : decode b_A_file 78 = .ok (.aload_n 0, 1) := by decide +kernel
theorem d_A_file_79 : decode b_A_file 79 = .ok (.getfield 34, 3) := by decide +kernel
theorem d_A_file_82 : decode b_A_file 82 = .ok (.ifCond .eq 7, 3) := by decide +kernel
theorem d_A_file_85 : decode b_A_file 85 = .ok (.iconst 0, 1) := by decide +kernel
theorem d_A_file_86 : decode b_A_file 86 = .ok (.goto 11, 3) := by decide +kernel
theorem d_A_file_89 : decode b_A_file 89 = .ok (.aload_n 3, 1) := by decide +kernel
theorem d_A_file_90 : decode b_A_file 90 = .ok (.aload_n 0, 1) := by decide +kernel
theorem d_A_file_91 : decode b_A_file 91 = .ok (.getfield 19, 3) := by decide +kernel
theorem d_A_file_94 : decode b_A_file 94 = .ok (.invokevirtual 184, 3) := by decide +kernel
theorem d_A_file_97 : decode b_A_file 97 = .ok (.ireturn, 1) := by decide +kernel
theorem d_A_file_98 : decode b_A_file 98 = .ok (.aload_n 3, 1) := by decide +kernel
theorem d_A_file_99 : decode b_A_file 99 = .ok (.invokevirtual 188, 3) := by decide +kernel
theorem d_A_file_102 : decode b_A_file 102 = .ok (.invokevirtual 177, 3) := by decide +kernel
theorem d_A_file_105 : decode b_A_file 105 = .ok (.ireturn, 1) := by decide +kernel
theorem d_A_octet_0 : decode b_A_octet 0 = .ok (.aload_n 0, 1) := by decide +kernel
theorem d_A_octet_1 : decode b_A_octet 1 = .ok (.iload_n 1, 1) := by decide +kernel
theorem d_A_octet_2 : decode b_A_octet 2 = .ok (.iload_n 2, 1) := by decide +kernel
theorem d_A_octet_3 : decode b_A_octet 3 = .ok (.iload_n 3, 1) := by decide +kernel
theorem d_A_octet_4 : decode b_A_octet 4 = .ok (.invokevirtual 191, 3) := by decide +kernel
theorem d_A_octet_7 : decode b_A_octet 7 = .ok (.iload_n 2, 1) := by decide +kernel
theorem d_A_octet_8 : decode b_A_octet 8 = .ok (.invokevirtual 195, 3) := by decide +kernel
theorem d_A_octet_11 : decode b_A_octet 11 = .ok (.ireturn, 1) := by decide +kernel
theorem d_A_spoil_0 : decode b_A_spoil 0 = .ok (.aload_n 0, 1) := by decide +kernel
theorem d_A_spoil_1 : decode b_A_spoil 1 = .ok (.iload_n 1, 1) := by decide +kernel
theorem d_A_spoil_2 : decode b_A_spoil 2 = .ok (.iload_n 2, 1) := by decide +kernel
theorem d_A_spoil_3 : decode b_A_spoil 3 = .ok (.iload_n 3, 1) := by decide +kernel
theorem d_A_spoil_4 : decode b_A_spoil 4 = .ok (.invokevirtual 191, 3) := by decide +kernel
theorem d_A_spoil_7 : decode b_A_spoil 7 = .ok (.astore 5, 2) := by decide +kernel
theorem d_A_spoil_9 : decode b_A_spoil 9 = .ok (.aload 5, 2) := by decide +kernel
theorem d_A_spoil_11 : decode b_A_spoil 11 = .ok (.iload_n 2, 1) := by decide +kernel
theorem d_A_spoil_12 : decode b_A_spoil 12 = .ok (.aload 5, 2) := by decide +kernel
theorem d_A_spoil_14 : decode b_A_spoil 14 = .ok (.iload_n 2, 1) := by decide +kernel
theorem d_A_spoil_15 : decode b_A_spoil 15 = .ok (.invokevirtual 195, 3) := by decide +kernel
theorem d_A_spoil_18 : decode b_A_spoil 18 = .ok (.iload 4, 2) := by decide +kernel
theorem d_A_spoil_20 : decode b_A_spoil 20 = .ok (.ixor, 1) := by decide +kernel
theorem d_A_spoil_21 : decode b_A_spoil 21 = .ok (.invokevirtual 198, 3) := by decide +kernel
theorem d_A_spoil_24 : decode b_A_spoil 24 = .ok (.return_, 1) := by decide +kernel
theorem d_A_checkOpen_0 : decode b_A_checkOpen 0 = .ok (.aload_n 0, 1) := by decide +kernel
theorem d_A_checkOpen_1 : decode b_A_checkOpen 1 = .ok (.getfield 34, 3) := by decide +kernel
theorem d_A_checkOpen_4 : decode b_A_checkOpen 4 = .ok (.ifCond .eq 13, 3) := by decide +kernel
theorem d_A_checkOpen_7 : decode b_A_checkOpen 7 = .ok (.new 146, 3) := by decide +kernel
theorem d_A_checkOpen_10 : decode b_A_checkOpen 10 = .ok (.dup, 1) := by decide +kernel
theorem d_A_checkOpen_11 : decode b_A_checkOpen 11 = .ok (.ldc 202, 2) := by decide +kernel
theorem d_A_checkOpen_13 : decode b_A_checkOpen 13 = .ok (.invokespecial 150, 3) := by decide +kernel
theorem d_A_checkOpen_16 : decode b_A_checkOpen 16 = .ok (.athrow, 1) := by decide +kernel
theorem d_A_checkOpen_17 : decode b_A_checkOpen 17 = .ok (.return_, 1) := by decide +kernel
theorem d_A_checkRange_0 : decode b_A_checkRange 0 = .ok (.iload_n 0, 1) := by decide +kernel
theorem d_A_checkRange_1 : decode b_A_checkRange 1 = .ok (.iload_n 1, 1) := by decide +kernel
theorem d_A_checkRange_2 : decode b_A_checkRange 2 = .ok (.if_icmp .lt 8, 3) := by decide +kernel
theorem d_A_checkRange_5 : decode b_A_checkRange 5 = .ok (.iload_n 0, 1) := by decide +kernel
theorem d_A_checkRange_6 : decode b_A_checkRange 6 = .ok (.iload_n 2, 1) := by decide +kernel
theorem d_A_checkRange_7 : decode b_A_checkRange 7 = .ok (.if_icmp .le 13, 3) := by decide +kernel
theorem d_A_checkRange_10 : decode b_A_checkRange 10 = .ok (.new 166, 3) := by decide +kernel
theorem d_A_checkRange_13 : decode b_A_checkRange 13 = .ok (.dup, 1) := by decide +kernel
theorem d_A_checkRange_14 : decode b_A_checkRange 14 = .ok (.ldc 204, 2) := by decide +kernel
theorem d_A_checkRange_16 : decode b_A_checkRange 16 = .ok (.invokespecial 170, 3) := by decide +kernel
theorem d_A_checkRange_19 : decode b_A_checkRange 19 = .ok (.athrow, 1) := by decide +kernel
theorem d_A_checkRange_20 : decode b_A_checkRange 20 = .ok (.return_, 1) := by decide +kernel
theorem d_A_rowWith_0 : decode b_A_rowWith 0 = .ok (.aload_n 0, 1) := by decide +kernel
theorem d_A_rowWith_1 : decode b_A_rowWith 1 = .ok (.getfield 10, 3) := by decide +kernel
theorem d_A_rowWith_4 : decode b_A_rowWith 4 = .ok (.iload_n 1, 1) := by decide +kernel
theorem d_A_rowWith_5 : decode b_A_rowWith 5 = .ok (.invokevirtual 127, 3) := by decide +kernel
theorem d_A_rowWith_8 : decode b_A_rowWith 8 = .ok (.astore 4, 2) := by decide +kernel
theorem d_A_rowWith_10 : decode b_A_rowWith 10 = .ok (.aload 4, 2) := by decide +kernel
theorem d_A_rowWith_12 : decode b_A_rowWith 12 = .ok (.ifnonnull 13, 3) := by decide +kernel
theorem d_A_rowWith_15 : decode b_A_rowWith 15 = .ok (.new 166, 3) := by decide +kernel
theorem d_A_rowWith_18 : decode b_A_rowWith 18 = .ok (.dup, 1) := by decide +kernel
theorem d_A_rowWith_19 : decode b_A_rowWith 19 = .ok (.ldc 168, 2) := by decide +kernel
theorem d_A_rowWith_21 : decode b_A_rowWith 21 = .ok (.invokespecial 170, 3) := by decide +kernel
theorem d_A_rowWith_24 : decode b_A_rowWith 24 = .ok (.athrow, 1) := by decide +kernel
theorem d_A_rowWith_25 : decode b_A_rowWith 25 = .ok (.iload_n 3, 1) := by decide +kernel
theorem d_A_rowWith_26 : decode b_A_rowWith 26 = .ok (.ifCond .eq 11, 3) := by decide +kernel
theorem d_A_rowWith_29 : decode b_A_rowWith 29 = .ok (.aload 4, 2) := by decide +kernel
theorem d_A_rowWith_31 : decode b_A_rowWith 31 = .ok (.invokevirtual 188, 3) := by decide +kernel
theorem d_A_rowWith_34 : decode b_A_rowWith 34 = .ok (.goto 8, 3) := by decide +kernel
theorem d_A_rowWith_37 : decode b_A_rowWith 37 = .ok (.aload 4, 2) := by decide +kernel
theorem d_A_rowWith_39 : decode b_A_rowWith 39 = .ok (.invokevirtual 173, 3) := by decide +kernel
theorem d_A_rowWith_42 : decode b_A_rowWith 42 = .ok (.astore 5, 2) := by decide +kernel
theorem d_A_rowWith_44 : decode b_A_rowWith 44 = .ok (.aload 5, 2) := by decide +kernel
theorem d_A_rowWith_46 : decode b_A_rowWith 46 = .ok (.iload_n 2, 1) := by decide +kernel
theorem d_A_rowWith_47 : decode b_A_rowWith 47 = .ok (.invokevirtual 206, 3) := by decide +kernel
theorem d_A_rowWith_50 : decode b_A_rowWith 50 = .ok (.ifCond .ne 13, 3) := by decide +kernel
theorem d_A_rowWith_53 : decode b_A_rowWith 53 = .ok (.new 166, 3) := by decide +kernel
theorem d_A_rowWith_56 : decode b_A_rowWith 56 = .ok (.dup, 1) := by decide +kernel
theorem d_A_rowWith_57 : decode b_A_rowWith 57 = .ok (.ldc 210, 2) := by decide +kernel
theorem d_A_rowWith_59 : decode b_A_rowWith 59 = .ok (.invokespecial 170, 3) := by decide +kernel
theorem d_A_rowWith_62 : decode b_A_rowWith 62 = .ok (.athrow, 1) := by decide +kernel
theorem d_A_rowWith_63 : decode b_A_rowWith 63 = .ok (.aload 5, 2) := by decide +kernel
theorem d_A_rowWith_65 : decode b_A_rowWith 65 = .ok (.areturn, 1) := by decide +kernel
theorem d_A_append_0 : decode b_A_append 0 = .ok (.aload_n 0, 1) := by decide +kernel
theorem d_A_append_1 : decode b_A_append 1 = .ok (.getfield 10, 3) := by decide +kernel
theorem d_A_append_4 : decode b_A_append 4 = .ok (.lload_n 1, 1) := by decide +kernel
theorem d_A_append_5 : decode b_A_append 5 = .ok (.invokestatic 96, 3) := by decide +kernel
theorem d_A_append_8 : decode b_A_append 8 = .ok (.iload 5, 2) := by decide +kernel
theorem d_A_append_10 : decode b_A_append 10 = .ok (.invokestatic 212, 3) := by decide +kernel
theorem d_A_append_13 : decode b_A_append 13 = .ok (.invokevirtual 216, 3) := by decide +kernel
theorem d_A_append_16 : decode b_A_append 16 = .ok (.astore 6, 2) := by decide +kernel
theorem d_A_append_18 : decode b_A_append 18 = .ok (.aload 6, 2) := by decide +kernel
theorem d_A_append_20 : decode b_A_append 20 = .ok (.ifnonnull 13, 3) := by decide +kernel
theorem d_A_append_23 : decode b_A_append 23 = .ok (.new 74, 3) := by decide +kernel
theorem d_A_append_26 : decode b_A_append 26 = .ok (.dup, 1) := by decide +kernel
theorem d_A_append_27 : decode b_A_append 27 = .ok (.ldc 219, 2) := by decide +kernel
theorem d_A_append_29 : decode b_A_append 29 = .ok (.invokespecial 78, 3) := by decide +kernel
theorem d_A_append_32 : decode b_A_append 32 = .ok (.athrow, 1) := by decide +kernel
theorem d_A_append_33 : decode b_A_append 33 = .ok (.aload_n 0, 1) := by decide +kernel
theorem d_A_append_34 : decode b_A_append 34 = .ok (.getfield 19, 3) := by decide +kernel
theorem d_A_append_37 : decode b_A_append 37 = .ok (.aload 6, 2) := by decide +kernel
theorem d_A_append_39 : decode b_A_append 39 = .ok (.aload_n 0, 1) := by decide +kernel
theorem d_A_append_40 : decode b_A_append 40 = .ok (.getfield 30, 3) := by decide +kernel
theorem d_A_append_43 : decode b_A_append 43 = .ok (.lload_n 1, 1) := by decide +kernel
theorem d_A_append_44 : decode b_A_append 44 = .ok (.lload_n 3, 1) := by decide +kernel
theorem d_A_append_45 : decode b_A_append 45 = .ok (.iload 5, 2) := by decide +kernel
theorem d_A_append_47 : decode b_A_append 47 = .ok (.invokevirtual 221, 3) := by decide +kernel
theorem d_A_append_50 : decode b_A_append 50 = .ok (.invokevirtual 224, 3) := by decide +kernel
theorem d_A_append_53 : decode b_A_append 53 = .ok (.aload_n 0, 1) := by decide +kernel
theorem d_A_append_54 : decode b_A_append 54 = .ok (.aload_n 0, 1) := by decide +kernel
theorem d_A_append_55 : decode b_A_append 55 = .ok (.getfield 30, 3) := by decide +kernel
theorem d_A_append_58 : decode b_A_append 58 = .ok (.iconst 1, 1) := by decide +kernel
theorem d_A_append_59 : decode b_A_append 59 = .ok (.iadd, 1) := by decide +kernel
theorem d_A_append_60 : decode b_A_append 60 = .ok (.ldc 227, 2) := by decide +kernel
theorem d_A_append_62 : decode b_A_append 62 = .ok (.iand, 1) := by decide +kernel
theorem d_A_append_63 : decode b_A_append 63 = .ok (.putfield 30, 3) := by decide +kernel
theorem d_A_append_66 : decode b_A_append 66 = .ok (.return_, 1) := by decide +kernel
theorem d_A_enter_0 : decode b_A_enter 0 = .ok (.iconst 0, 1) := by decide +kernel
theorem d_A_enter_1 : decode b_A_enter 1 = .ok (.istore_n 2, 1) := by decide +kernel
theorem d_A_enter_2 : decode b_A_enter 2 = .ok (.iload_n 2, 1) := by decide +kernel
theorem d_A_enter_3 : decode b_A_enter 3 = .ok (.aload_n 1, 1) := by decide +kernel
theorem d_A_enter_4 : decode b_A_enter 4 = .ok (.invokevirtual 228, 3) := by decide +kernel
theorem d_A_enter_7 : decode b_A_enter 7 = .ok (.if_icmp .ge 27, 3) := by decide +kernel
theorem d_A_enter_10 : decode b_A_enter 10 = .ok (.aload_n 1, 1) := by decide +kernel
theorem d_A_enter_11 : decode b_A_enter 11 = .ok (.iload_n 2, 1) := by decide +kernel
theorem d_A_enter_12 : decode b_A_enter 12 = .ok (.invokevirtual 231, 3) := by decide +kernel
theorem d_A_enter_15 : decode b_A_enter 15 = .ok (.astore_n 3, 1) := by decide +kernel
theorem d_A_enter_16 : decode b_A_enter 16 = .ok (.aload_n 3, 1) := by decide +kernel
theorem d_A_enter_17 : decode b_A_enter 17 = .ok (.ifnull 11, 3) := by decide +kernel
theorem d_A_enter_20 : decode b_A_enter 20 = .ok (.aload_n 0, 1) := by decide +kernel
theorem d_A_enter_21 : decode b_A_enter 21 = .ok (.getfield 19, 3) := by decide +kernel
theorem d_A_enter_24 : decode b_A_enter 24 = .ok (.aload_n 3, 1) := by decide +kernel
theorem d_A_enter_25 : decode b_A_enter 25 = .ok (.invokevirtual 224, 3) := by decide +kernel
theorem d_A_enter_28 : decode b_A_enter 28 = .ok (.iinc 2 1, 3) := by decide +kernel
theorem d_A_enter_31 : decode b_A_enter 31 = .ok (.goto (-29), 3) := by decide +kernel
theorem d_A_enter_34 : decode b_A_enter 34 = .ok (.return_, 1) := by decide +kernel
theorem d_D_init_0 : decode b_D_init 0 = .ok (.aload_n 0, 1) := by decide +kernel
theorem d_D_init_1 : decode b_D_init 1 = .ok (.invokespecial 3, 3) := by decide +kernel
theorem d_D_init_4 : decode b_D_init 4 = .ok (.aload_n 0, 1) := by decide +kernel
theorem d_D_init_5 : decode b_D_init 5 = .ok (.bipush 66, 2) := by decide +kernel
theorem d_D_init_7 : decode b_D_init 7 = .ok (.anewarray 11, 3) := by decide +kernel
theorem d_D_init_10 : decode b_D_init 10 = .ok (.putfield 13, 3) := by decide +kernel
theorem d_D_init_13 : decode b_D_init 13 = .ok (.aload_n 0, 1) := by decide +kernel
theorem d_D_init_14 : decode b_D_init 14 = .ok (.iconst 0, 1) := by decide +kernel
theorem d_D_init_15 : decode b_D_init 15 = .ok (.putfield 19, 3) := by decide +kernel
theorem d_D_init_18 : decode b_D_init 18 = .ok (.return_, 1) := by decide +kernel
theorem d_D_count_0 : decode b_D_count 0 = .ok (.aload_n 0, 1) := by decide +kernel
theorem d_D_count_1 : decode b_D_count 1 = .ok (.getfield 19, 3) := by decide +kernel
theorem d_D_count_4 : decode b_D_count 4 = .ok (.ireturn, 1) := by decide +kernel
theorem d_D_clear_0 : decode b_D_clear 0 = .ok (.aload_n 0, 1) := by decide +kernel
theorem d_D_clear_1 : decode b_D_clear 1 = .ok (.iconst 0, 1) := by decide +kernel
theorem d_D_clear_2 : decode b_D_clear 2 = .ok (.putfield 19, 3) := by decide +kernel
theorem d_D_clear_5 : decode b_D_clear 5 = .ok (.return_, 1) := by decide +kernel
theorem d_D_at_0 : decode b_D_at 0 = .ok (.iload_n 1, 1) := by decide +kernel
theorem d_D_at_1 : decode b_D_at 1 = .ok (.ifCond .lt 20, 3) := by decide +kernel
theorem d_D_at_4 : decode b_D_at 4 = .ok (.iload_n 1, 1) := by decide +kernel
theorem d_D_at_5 : decode b_D_at 5 = .ok (.aload_n 0, 1) := by decide +kernel
theorem d_D_at_6 : decode b_D_at 6 = .ok (.getfield 19, 3) := by decide +kernel
theorem d_D_at_9 : decode b_D_at 9 = .ok (.if_icmp .ge 12, 3) := by decide +kernel
theorem d_D_at_12 : decode b_D_at 12 = .ok (.aload_n 0, 1) := by decide +kernel
theorem d_D_at_13 : decode b_D_at 13 = .ok (.getfield 13, 3) := by decide +kernel
theorem d_D_at_16 : decode b_D_at 16 = .ok (.iload_n 1, 1) := by decide +kernel
theorem d_D_at_17 : decode b_D_at 17 = .ok (.aaload, 1) := by decide +kernel
theorem d_D_at_18 : decode b_D_at 18 = .ok (.goto 4, 3) := by decide +kernel
theorem d_D_at_21 : decode b_D_at 21 = .ok (.aconst_null, 1) := by decide +kernel
theorem d_D_at_22 : decode b_D_at 22 = .ok (.areturn, 1) := by decide +kernel
theorem d_D_find_0 : decode b_D_find 0 = .ok (.aload_n 0, 1) := by decide +kernel
theorem d_D_find_1 : decode b_D_find 1 = .ok (.aload_n 0, 1) := by decide +kernel
theorem d_D_find_2 : decode b_D_find 2 = .ok (.lload_n 1, 1) := by decide +kernel
theorem d_D_find_3 : decode b_D_find 3 = .ok (.invokevirtual 23, 3) := by decide +kernel
theorem d_D_find_6 : decode b_D_find 6 = .ok (.invokevirtual 27, 3) := by decide +kernel
theorem d_D_find_9 : decode b_D_find 9 = .ok (.astore_n 3, 1) := by decide +kernel
theorem d_D_find_10 : decode b_D_find 10 = .ok (.aload_n 3, 1) := by decide +kernel
theorem d_D_find_11 : decode b_D_find 11 = .ok (.ifnull 16, 3) := by decide +kernel
theorem d_D_find_14 : decode b_D_find 14 = .ok (.aload_n 3, 1) := by decide +kernel
theorem d_D_find_15 : decode b_D_find 15 = .ok (.getfield 31, 3) := by decide +kernel
theorem d_D_find_18 : decode b_D_find 18 = .ok (.lload_n 1, 1) := by decide +kernel
theorem d_D_find_19 : decode b_D_find 19 = .ok (.lcmp, 1) := by decide +kernel
theorem d_D_find_20 : decode b_D_find 20 = .ok (.ifCond .ne 7, 3) := by decide +kernel
theorem d_D_find_23 : decode b_D_find 23 = .ok (.aload_n 3, 1) := by decide +kernel
theorem d_D_find_24 : decode b_D_find 24 = .ok (.goto 4, 3) := by decide +kernel
theorem d_D_find_27 : decode b_D_find 27 = .ok (.aconst_null, 1) := by decide +kernel
theorem d_D_find_28 : decode b_D_find 28 = .ok (.areturn, 1) := by decide +kernel
theorem d_D_has_0 : decode b_D_has 0 = .ok (.aload_n 0, 1) := by decide +kernel
theorem d_D_has_1 : decode b_D_has 1 = .ok (.aload_n 1, 1) := by decide +kernel
theorem d_D_has_2 : decode b_D_has 2 = .ok (.getfield 31, 3) := by decide +kernel
theorem d_D_has_5 : decode b_D_has 5 = .ok (.invokevirtual 35, 3) := by decide +kernel
theorem d_D_has_8 : decode b_D_has 8 = .ok (.aload_n 1, 1) := by decide +kernel
theorem d_D_has_9 : decode b_D_has 9 = .ok (.if_acmp .ne 7, 3) := by decide +kernel
theorem d_D_has_12 : decode b_D_has 12 = .ok (.iconst 1, 1) := by decide +kernel
theorem d_D_has_13 : decode b_D_has 13 = .ok (.goto 4, 3) := by decide +kernel
theorem d_D_has_16 : decode b_D_has 16 = .ok (.iconst 0, 1) := by decide +kernel
theorem d_D_has_17 : decode b_D_has 17 = .ok (.ireturn, 1) := by decide +kernel
theorem d_D_enter_0 : decode b_D_enter 0 = .ok (.aload_n 0, 1) := by decide +kernel
theorem d_D_enter_1 : decode b_D_enter 1 = .ok (.aload_n 1, 1) := by decide +kernel
theorem d_D_enter_2 : decode b_D_enter 2 = .ok (.getfield 31, 3) := by decide +kernel
theorem d_D_enter_5 : decode b_D_enter 5 = .ok (.invokevirtual 23, 3) := by decide +kernel
theorem d_D_enter_8 : decode b_D_enter 8 = .ok (.istore_n 2, 1) := by decide +kernel
theorem d_D_enter_9 : decode b_D_enter 9 = .ok (.aload_n 0, 1) := by decide +kernel
theorem d_D_enter_10 : decode b_D_enter 10 = .ok (.iload_n 2, 1) := by decide +kernel
theorem d_D_enter_11 : decode b_D_enter 11 = .ok (.invokevirtual 27, 3) := by decide +kernel
theorem d_D_enter_14 : decode b_D_enter 14 = .ok (.astore_n 3, 1) := by decide +kernel
theorem d_D_enter_15 : decode b_D_enter 15 = .ok (.aload_n 3, 1) := by decide +kernel
theorem d_D_enter_16 : decode b_D_enter 16 = .ok (.ifnull 19, 3) := by decide +kernel
theorem d_D_enter_19 : decode b_D_enter 19 = .ok (.aload_n 3, 1) := by decide +kernel
theorem d_D_enter_20 : decode b_D_enter 20 = .ok (.getfield 31, 3) := by decide +kernel
theorem d_D_enter_23 : decode b_D_enter 23 = .ok (.aload_n 1, 1) := by decide +kernel
theorem d_D_enter_24 : decode b_D_enter 24 = .ok (.getfield 31, 3) := by decide +kernel
theorem d_D_enter_27 : decode b_D_enter 27 = .ok (.lcmp, 1) := by decide +kernel
theorem d_D_enter_28 : decode b_D_enter 28 = .ok (.ifCond .ne 7, 3) := by decide +kernel
theorem d_D_enter_31 : decode b_D_enter 31 = .ok (.iconst 1, 1) := by decide +kernel
theorem d_D_enter_32 : decode b_D_enter 32 = .ok (.goto 4, 3) := by decide +kernel
theorem d_D_enter_35 : decode b_D_enter 35 = .ok (.iconst 0, 1) := by decide +kernel
theorem d_D_enter_36 : decode b_D_enter 36 = .ok (.istore 4, 2) := by decide +kernel
theorem d_D_enter_38 : decode b_D_enter 38 = .ok (.aload_n 1, 1) := by decide +kernel
theorem d_D_enter_39 : decode b_D_enter 39 = .ok (.invokevirtual 39, 3) := by decide +kernel
theorem d_D_enter_42 : decode b_D_enter 42 = .ok (.ifCond .eq 16, 3) := by decide +kernel
theorem d_D_enter_45 : decode b_D_enter 45 = .ok (.iload 4, 2) := by decide +kernel
theorem d_D_enter_47 : decode b_D_enter 47 = .ok (.ifCond .eq 32, 3) := by decide +kernel
theorem d_D_enter_50 : decode b_D_enter 50 = .ok (.aload_n 0, 1) := by decide +kernel
theorem d_D_enter_51 : decode b_D_enter 51 = .ok (.iload_n 2, 1) := by decide +kernel
theorem d_D_enter_52 : decode b_D_enter 52 = .ok (.invokevirtual 43, 3) := by decide +kernel
theorem d_D_enter_55 : decode b_D_enter 55 = .ok (.goto 24, 3) := by decide +kernel
theorem d_D_enter_58 : decode b_D_enter 58 = .ok (.iload 4, 2) := by decide +kernel
theorem d_D_enter_60 : decode b_D_enter 60 = .ok (.ifCond .eq 13, 3) := by decide +kernel
theorem d_D_enter_63 : decode b_D_enter 63 = .ok (.aload_n 0, 1) := by decide +kernel
theorem d_D_enter_64 : decode b_D_enter 64 = .ok (.getfield 13, 3) := by decide +kernel
theorem d_D_enter_67 : decode b_D_enter 67 = .ok (.iload_n 2, 1) := by decide +kernel
theorem d_D_enter_68 : decode b_D_enter 68 = .ok (.aload_n 1, 1) := by decide +kernel
theorem d_D_enter_69 : decode b_D_enter 69 = .ok (.aastore, 1) := by decide +kernel
theorem d_D_enter_70 : decode b_D_enter 70 = .ok (.goto 9, 3) := by decide +kernel
theorem d_D_enter_73 : decode b_D_enter 73 = .ok (.aload_n 0, 1) := by decide +kernel
theorem d_D_enter_74 : decode b_D_enter 74 = .ok (.iload_n 2, 1) := by decide +kernel
theorem d_D_enter_75 : decode b_D_enter 75 = .ok (.aload_n 1, 1) := by decide +kernel
theorem d_D_enter_76 : decode b_D_enter 76 = .ok (.invokevirtual 47, 3) := by decide +kernel
theorem d_D_enter_79 : decode b_D_enter 79 = .ok (.return_, 1) := by decide +kernel
theorem d_D_replace_0 : decode b_D_replace 0 = .ok (.aload_n 1, 1) := by decide +kernel
theorem d_D_replace_1 : decode b_D_replace 1 = .ok (.ifnull 16, 3) := by decide +kernel
theorem d_D_replace_4 : decode b_D_replace 4 = .ok (.aload_n 0, 1) := by decide +kernel
theorem d_D_replace_5 : decode b_D_replace 5 = .ok (.aload_n 1, 1) := by decide +kernel
theorem d_D_replace_6 : decode b_D_replace 6 = .ok (.invokevirtual 51, 3) := by decide +kernel
theorem d_D_replace_9 : decode b_D_replace 9 = .ok (.ifCond .eq 8, 3) := by decide +kernel
theorem d_D_replace_12 : decode b_D_replace 12 = .ok (.aload_n 0, 1) := by decide +kernel
theorem d_D_replace_13 : decode b_D_replace 13 = .ok (.aload_n 2, 1) := by decide +kernel
theorem d_D_replace_14 : decode b_D_replace 14 = .ok (.invokevirtual 55, 3) := by decide +kernel
theorem d_D_replace_17 : decode b_D_replace 17 = .ok (.return_, 1) := by decide +kernel
theorem d_D_firstFrom_0 : decode b_D_firstFrom 0 = .ok (.iconst 0, 1) := by decide +kernel
theorem d_D_firstFrom_1 : decode b_D_firstFrom 1 = .ok (.istore_n 3, 1) := by decide +kernel
theorem d_D_firstFrom_2 : decode b_D_firstFrom 2 = .ok (.iload_n 3, 1) := by decide +kernel
theorem d_D_firstFrom_3 : decode b_D_firstFrom 3 = .ok (.aload_n 0, 1) := by decide +kernel
theorem d_D_firstFrom_4 : decode b_D_firstFrom 4 = .ok (.getfield 19, 3) := by decide +kernel
theorem d_D_firstFrom_7 : decode b_D_firstFrom 7 = .ok (.if_icmp .ge 23, 3) := by decide +kernel
theorem d_D_firstFrom_10 : decode b_D_firstFrom 10 = .ok (.aload_n 0, 1) := by decide +kernel
theorem d_D_firstFrom_11 : decode b_D_firstFrom 11 = .ok (.getfield 13, 3) := by decide +kernel
theorem d_D_firstFrom_14 : decode b_D_firstFrom 14 = .ok (.iload_n 3, 1) := by decide +kernel
theorem d_D_firstFrom_15 : decode b_D_firstFrom 15 = .ok (.aaload, 1) := by decide +kernel
theorem d_D_firstFrom_16 : decode b_D_firstFrom 16 = .ok (.getfield 31, 3) := by decide +kernel
theorem d_D_firstFrom_19 : decode b_D_firstFrom 19 = .ok (.lload_n 1, 1) := by decide +kernel
theorem d_D_firstFrom_20 : decode b_D_firstFrom 20 = .ok (.lcmp, 1) := by decide +kernel
theorem d_D_firstFrom_21 : decode b_D_firstFrom 21 = .ok (.ifCond .ge 9, 3) := by decide +kernel
theorem d_D_firstFrom_24 : decode b_D_firstFrom 24 = .ok (.iinc 3 1, 3) := by decide +kernel
theorem d_D_firstFrom_27 : decode b_D_firstFrom 27 = .ok (.goto (-25), 3) := by decide +kernel
theorem d_D_firstFrom_30 : decode b_D_firstFrom 30 = .ok (.iload_n 3, 1) := by decide +kernel
theorem d_D_firstFrom_31 : decode b_D_firstFrom 31 = .ok (.ireturn, 1) := by decide +kernel
theorem d_D_insert_0 : decode b_D_insert 0 = .ok (.aload_n 0, 1) := by decide +kernel
theorem d_D_insert_1 : decode b_D_insert 1 = .ok (.getfield 19, 3) := by decide +kernel
theorem d_D_insert_4 : decode b_D_insert 4 = .ok (.aload_n 0, 1) := by decide +kernel
theorem d_D_insert_5 : decode b_D_insert 5 = .ok (.getfield 13, 3) := by decide +kernel
theorem d_D_insert_8 : decode b_D_insert 8 = .ok (.arraylength, 1) := by decide +kernel
theorem d_D_insert_9 : decode b_D_insert 9 = .ok (.if_icmp .ne 4, 3) := by decide +kernel
theorem d_D_insert_12 : decode b_D_insert 12 = .ok (.return_, 1) := by decide +kernel
theorem d_D_insert_13 : decode b_D_insert 13 = .ok (.aload_n 0, 1) := by decide +kernel
theorem d_D_insert_14 : decode b_D_insert 14 = .ok (.getfield 19, 3) := by decide +kernel
theorem d_D_insert_17 : decode b_D_insert 17 = .ok (.istore_n 3, 1) := by decide +kernel
theorem d_D_insert_18 : decode b_D_insert 18 = .ok (.iload_n 3, 1) := by decide +kernel
theorem d_D_insert_19 : decode b_D_insert 19 = .ok (.iload_n 1, 1) := by decide +kernel
theorem d_D_insert_20 : decode b_D_insert 20 = .ok (.if_icmp .le 23, 3) := by decide +kernel
theorem d_D_insert_23 : decode b_D_insert 23 = .ok (.aload_n 0, 1) := by decide +kernel
theorem d_D_insert_24 : decode b_D_insert 24 = .ok (.getfield 13, 3) := by decide +kernel
theorem d_D_insert_27 : decode b_D_insert 27 = .ok (.iload_n 3, 1) := by decide +kernel
theorem d_D_insert_28 : decode b_D_insert 28 = .ok (.aload_n 0, 1) := by decide +kernel
theorem d_D_insert_29 : decode b_D_insert 29 = .ok (.getfield 13, 3) := by decide +kernel
theorem d_D_insert_32 : decode b_D_insert 32 = .ok (.iload_n 3, 1) := by decide +kernel
theorem d_D_insert_33 : decode b_D_insert 33 = .ok (.iconst 1, 1) := by decide +kernel
theorem d_D_insert_34 : decode b_D_insert 34 = .ok (.isub, 1) := by decide +kernel
theorem d_D_insert_35 : decode b_D_insert 35 = .ok (.aaload, 1) := by decide +kernel
theorem d_D_insert_36 : decode b_D_insert 36 = .ok (.aastore, 1) := by decide +kernel
theorem d_D_insert_37 : decode b_D_insert 37 = .ok (.iinc 3 (-1), 3) := by decide +kernel
theorem d_D_insert_40 : decode b_D_insert 40 = .ok (.goto (-22), 3) := by decide +kernel
theorem d_D_insert_43 : decode b_D_insert 43 = .ok (.aload_n 0, 1) := by decide +kernel
theorem d_D_insert_44 : decode b_D_insert 44 = .ok (.getfield 13, 3) := by decide +kernel
theorem d_D_insert_47 : decode b_D_insert 47 = .ok (.iload_n 1, 1) := by decide +kernel
theorem d_D_insert_48 : decode b_D_insert 48 = .ok (.aload_n 2, 1) := by decide +kernel
theorem d_D_insert_49 : decode b_D_insert 49 = .ok (.aastore, 1) := by decide +kernel
theorem d_D_insert_50 : decode b_D_insert 50 = .ok (.aload_n 0, 1) := by decide +kernel
theorem d_D_insert_51 : decode b_D_insert 51 = .ok (.dup, 1) := by decide +kernel
theorem d_D_insert_52 : decode b_D_insert 52 = .ok (.getfield 19, 3) := by decide +kernel
theorem d_D_insert_55 : decode b_D_insert 55 = .ok (.iconst 1, 1) := by decide +kernel
theorem d_D_insert_56 : decode b_D_insert 56 = .ok (.iadd, 1) := by decide +kernel
theorem d_D_insert_57 : decode b_D_insert 57 = .ok (.putfield 19, 3) := by decide +kernel
theorem d_D_insert_60 : decode b_D_insert 60 = .ok (.return_, 1) := by decide +kernel
theorem d_D_takeOut_0 : decode b_D_takeOut 0 = .ok (.iload_n 1, 1) := by decide +kernel
theorem d_D_takeOut_1 : decode b_D_takeOut 1 = .ok (.istore_n 2, 1) := by decide +kernel
theorem d_D_takeOut_2 : decode b_D_takeOut 2 = .ok (.iload_n 2, 1) := by decide +kernel
theorem d_D_takeOut_3 : decode b_D_takeOut 3 = .ok (.aload_n 0, 1) := by decide +kernel
theorem d_D_takeOut_4 : decode b_D_takeOut 4 = .ok (.getfield 19, 3) := by decide +kernel
theorem d_D_takeOut_7 : decode b_D_takeOut 7 = .ok (.iconst 1, 1) := by decide +kernel
theorem d_D_takeOut_8 : decode b_D_takeOut 8 = .ok (.isub, 1) := by decide +kernel
theorem d_D_takeOut_9 : decode b_D_takeOut 9 = .ok (.if_icmp .ge 23, 3) := by decide +kernel
theorem d_D_takeOut_12 : decode b_D_takeOut 12 = .ok (.aload_n 0, 1) := by decide +kernel
theorem d_D_takeOut_13 : decode b_D_takeOut 13 = .ok (.getfield 13, 3) := by decide +kernel
theorem d_D_takeOut_16 : decode b_D_takeOut 16 = .ok (.iload_n 2, 1) := by decide +kernel
theorem d_D_takeOut_17 : decode b_D_takeOut 17 = .ok (.aload_n 0, 1) := by decide +kernel
theorem d_D_takeOut_18 : decode b_D_takeOut 18 = .ok (.getfield 13, 3) := by decide +kernel
theorem d_D_takeOut_21 : decode b_D_takeOut 21 = .ok (.iload_n 2, 1) := by decide +kernel
theorem d_D_takeOut_22 : decode b_D_takeOut 22 = .ok (.iconst 1, 1) := by decide +kernel
theorem d_D_takeOut_23 : decode b_D_takeOut 23 = .ok (.iadd, 1) := by decide +kernel
theorem d_D_takeOut_24 : decode b_D_takeOut 24 = .ok (.aaload, 1) := by decide +kernel
theorem d_D_takeOut_25 : decode b_D_takeOut 25 = .ok (.aastore, 1) := by decide +kernel
theorem d_D_takeOut_26 : decode b_D_takeOut 26 = .ok (.iinc 2 1, 3) := by decide +kernel
theorem d_D_takeOut_29 : decode b_D_takeOut 29 = .ok (.goto (-27), 3) := by decide +kernel
theorem d_D_takeOut_32 : decode b_D_takeOut 32 = .ok (.aload_n 0, 1) := by decide +kernel
theorem d_D_takeOut_33 : decode b_D_takeOut 33 = .ok (.dup, 1) := by decide +kernel
theorem d_D_takeOut_34 : decode b_D_takeOut 34 = .ok (.getfield 19, 3) := by decide +kernel
theorem d_D_takeOut_37 : decode b_D_takeOut 37 = .ok (.iconst 1, 1) := by decide +kernel
theorem d_D_takeOut_38 : decode b_D_takeOut 38 = .ok (.isub, 1) := by decide +kernel
theorem d_D_takeOut_39 : decode b_D_takeOut 39 = .ok (.putfield 19, 3) := by decide +kernel
theorem d_D_takeOut_42 : decode b_D_takeOut 42 = .ok (.return_, 1) := by decide +kernel
theorem d_K_rank_0 : decode b_K_rank 0 = .ok (.lload_n 0, 1) := by decide +kernel
theorem d_K_rank_1 : decode b_K_rank 1 = .ok (.lconst 1, 1) := by decide +kernel
theorem d_K_rank_2 : decode b_K_rank 2 = .ok (.bipush 8, 2) := by decide +kernel
theorem d_K_rank_4 : decode b_K_rank 4 = .ok (.iload_n 2, 1) := by decide +kernel
theorem d_K_rank_5 : decode b_K_rank 5 = .ok (.imul, 1) := by decide +kernel
theorem d_K_rank_6 : decode b_K_rank 6 = .ok (.lshl, 1) := by decide +kernel
theorem d_K_rank_7 : decode b_K_rank 7 = .ok (.lconst 1, 1) := by decide +kernel
theorem d_K_rank_8 : decode b_K_rank 8 = .ok (.lsub, 1) := by decide +kernel
theorem d_K_rank_9 : decode b_K_rank 9 = .ok (.land, 1) := by decide +kernel
theorem d_K_rank_10 : decode b_K_rank 10 = .ok (.lstore_n 3, 1) := by decide +kernel
theorem d_K_rank_11 : decode b_K_rank 11 = .ok (.lload_n 3, 1) := by decide +kernel
theorem d_K_rank_12 : decode b_K_rank 12 = .ok (.iload_n 2, 1) := by decide +kernel
theorem d_K_rank_13 : decode b_K_rank 13 = .ok (.invokestatic 7, 3) := by decide +kernel
theorem d_K_rank_16 : decode b_K_rank 16 = .ok (.lshl, 1) := by decide +kernel
theorem d_K_rank_17 : decode b_K_rank 17 = .ok (.iconst 3, 1) := by decide +kernel
theorem d_K_rank_18 : decode b_K_rank 18 = .ok (.lshl, 1) := by decide +kernel
theorem d_K_rank_19 : decode b_K_rank 19 = .ok (.iload_n 2, 1) := by decide +kernel
theorem d_K_rank_20 : decode b_K_rank 20 = .ok (.i2l, 1) := by decide +kernel
theorem d_K_rank_21 : decode b_K_rank 21 = .ok (.lor, 1) := by decide +kernel
theorem d_K_rank_22 : decode b_K_rank 22 = .ok (.lreturn, 1) := by decide +kernel
theorem d_K_size_0 : decode b_K_size 0 = .ok (.lload_n 0, 1) := by decide +kernel
theorem d_K_size_1 : decode b_K_size 1 = .ok (.ldc2_w 13, 3) := by decide +kernel
theorem d_K_size_4 : decode b_K_size 4 = .ok (.land, 1) := by decide +kernel
theorem d_K_size_5 : decode b_K_size 5 = .ok (.l2i, 1) := by decide +kernel
theorem d_K_size_6 : decode b_K_size 6 = .ok (.ireturn, 1) := by decide +kernel
theorem d_K_number_0 : decode b_K_number 0 = .ok (.lload_n 0, 1) := by decide +kernel
theorem d_K_number_1 : decode b_K_number 1 = .ok (.iconst 3, 1) := by decide +kernel
theorem d_K_number_2 : decode b_K_number 2 = .ok (.lushr, 1) := by decide +kernel
theorem d_K_number_3 : decode b_K_number 3 = .ok (.lload_n 0, 1) := by decide +kernel
theorem d_K_number_4 : decode b_K_number 4 = .ok (.invokestatic 15, 3) := by decide +kernel
theorem d_K_number_7 : decode b_K_number 7 = .ok (.invokestatic 7, 3) := by decide +kernel
theorem d_K_number_10 : decode b_K_number 10 = .ok (.lushr, 1) := by decide +kernel
theorem d_K_number_11 : decode b_K_number 11 = .ok (.lreturn, 1) := by decide +kernel
theorem d_K_missingBits_0 : decode b_K_missingBits 0 = .ok (.bipush 8, 2) := by decide +kernel
theorem d_K_missingBits_2 : decode b_K_missingBits 2 = .ok (.iconst 4, 1) := by decide +kernel
theorem d_K_missingBits_3 : decode b_K_missingBits 3 = .ok (.iload_n 0, 1) := by decide +kernel
theorem d_K_missingBits_4 : decode b_K_missingBits 4 = .ok (.isub, 1) := by decide +kernel
theorem d_K_missingBits_5 : decode b_K_missingBits 5 = .ok (.imul, 1) := by decide +kernel
theorem d_K_missingBits_6 : decode b_K_missingBits 6 = .ok (.ireturn, 1) := by decide +kernel
theorem d_Y_valueBytes_0 : decode b_Y_valueBytes 0 = .ok (.iload_n 0, 1) := by decide +kernel
theorem d_Y_valueBytes_1 : decode b_Y_valueBytes 1 = .ok (.sipush 255, 3) := by decide +kernel
theorem d_Y_valueBytes_4 : decode b_Y_valueBytes 4 = .ok (.if_icmp .ne 7, 3) := by decide +kernel
theorem d_Y_valueBytes_7 : decode b_Y_valueBytes 7 = .ok (.iconst 0, 1) := by decide +kernel
theorem d_Y_valueBytes_8 : decode b_Y_valueBytes 8 = .ok (.goto 4, 3) := by decide +kernel
theorem d_Y_valueBytes_11 : decode b_Y_valueBytes 11 = .ok (.iload_n 0, 1) := by decide +kernel
theorem d_Y_valueBytes_12 : decode b_Y_valueBytes 12 = .ok (.ireturn, 1) := by decide +kernel
theorem d_Y_recordBytes_0 : decode b_Y_recordBytes 0 = .ok (.bipush 8, 2) := by decide +kernel
theorem d_Y_recordBytes_2 : decode b_Y_recordBytes 2 = .ok (.iload_n 0, 1) := by decide +kernel
theorem d_Y_recordBytes_3 : decode b_Y_recordBytes 3 = .ok (.iadd, 1) := by decide +kernel
theorem d_Y_recordBytes_4 : decode b_Y_recordBytes 4 = .ok (.iload_n 1, 1) := by decide +kernel
theorem d_Y_recordBytes_5 : decode b_Y_recordBytes 5 = .ok (.invokestatic 9, 3) := by decide +kernel
theorem d_Y_recordBytes_8 : decode b_Y_recordBytes 8 = .ok (.iadd, 1) := by decide +kernel
theorem d_Y_recordBytes_9 : decode b_Y_recordBytes 9 = .ok (.ireturn, 1) := by decide +kernel
theorem d_Y_isKeySize_0 : decode b_Y_isKeySize 0 = .ok (.iload_n 0, 1) := by decide +kernel
theorem d_Y_isKeySize_1 : decode b_Y_isKeySize 1 = .ok (.iconst 1, 1) := by decide +kernel
theorem d_Y_isKeySize_2 : decode b_Y_isKeySize 2 = .ok (.if_icmp .lt 12, 3) := by decide +kernel
theorem d_Y_isKeySize_5 : decode b_Y_isKeySize 5 = .ok (.iload_n 0, 1) := by decide +kernel
theorem d_Y_isKeySize_6 : decode b_Y_isKeySize 6 = .ok (.iconst 4, 1) := by decide +kernel
theorem d_Y_isKeySize_7 : decode b_Y_isKeySize 7 = .ok (.if_icmp .gt 7, 3) := by decide +kernel
theorem d_Y_isKeySize_10 : decode b_Y_isKeySize 10 = .ok (.iconst 1, 1) := by decide +kernel
theorem d_Y_isKeySize_11 : decode b_Y_isKeySize 11 = .ok (.goto 4, 3) := by decide +kernel
theorem d_Y_isKeySize_14 : decode b_Y_isKeySize 14 = .ok (.iconst 0, 1) := by decide +kernel
theorem d_Y_isKeySize_15 : decode b_Y_isKeySize 15 = .ok (.ireturn, 1) := by decide +kernel
theorem d_Y_isValueSize_0 : decode b_Y_isValueSize 0 = .ok (.iload_n 0, 1) := by decide +kernel
theorem d_Y_isValueSize_1 : decode b_Y_isValueSize 1 = .ok (.ifCond .lt 13, 3) := by decide +kernel
theorem d_Y_isValueSize_4 : decode b_Y_isValueSize 4 = .ok (.iload_n 0, 1) := by decide +kernel
theorem d_Y_isValueSize_5 : decode b_Y_isValueSize 5 = .ok (.bipush 8, 2) := by decide +kernel
theorem d_Y_isValueSize_7 : decode b_Y_isValueSize 7 = .ok (.if_icmp .gt 7, 3) := by decide +kernel
theorem d_Y_isValueSize_10 : decode b_Y_isValueSize 10 = .ok (.iconst 1, 1) := by decide +kernel
theorem d_Y_isValueSize_11 : decode b_Y_isValueSize 11 = .ok (.goto 4, 3) := by decide +kernel
theorem d_Y_isValueSize_14 : decode b_Y_isValueSize 14 = .ok (.iconst 0, 1) := by decide +kernel
theorem d_Y_isValueSize_15 : decode b_Y_isValueSize 15 = .ok (.ireturn, 1) := by decide +kernel
theorem d_G_init_0 : decode b_G_init 0 = .ok (.aload_n 0, 1) := by decide +kernel
theorem d_G_init_1 : decode b_G_init 1 = .ok (.invokespecial 3, 3) := by decide +kernel
theorem d_G_init_4 : decode b_G_init 4 = .ok (.aload_n 0, 1) := by decide +kernel
theorem d_G_init_5 : decode b_G_init 5 = .ok (.bipush 6, 2) := by decide +kernel
theorem d_G_init_7 : decode b_G_init 7 = .ok (.anewarray 9, 3) := by decide +kernel
theorem d_G_init_10 : decode b_G_init 10 = .ok (.putfield 11, 3) := by decide +kernel
theorem d_G_init_13 : decode b_G_init 13 = .ok (.iconst 0, 1) := by decide +kernel
theorem d_G_init_14 : decode b_G_init 14 = .ok (.istore_n 1, 1) := by decide +kernel
theorem d_G_init_15 : decode b_G_init 15 = .ok (.iload_n 1, 1) := by decide +kernel
theorem d_G_init_16 : decode b_G_init 16 = .ok (.aload_n 0, 1) := by decide +kernel
theorem d_G_init_17 : decode b_G_init 17 = .ok (.getfield 11, 3) := by decide +kernel
theorem d_G_init_20 : decode b_G_init 20 = .ok (.arraylength, 1) := by decide +kernel
theorem d_G_init_21 : decode b_G_init 21 = .ok (.if_icmp .ge 22, 3) := by decide +kernel
theorem d_G_init_24 : decode b_G_init 24 = .ok (.aload_n 0, 1) := by decide +kernel
theorem d_G_init_25 : decode b_G_init 25 = .ok (.getfield 11, 3) := by decide +kernel
theorem d_G_init_28 : decode b_G_init 28 = .ok (.iload_n 1, 1) := by decide +kernel
theorem d_G_init_29 : decode b_G_init 29 = .ok (.new 9, 3) := by decide +kernel
theorem d_G_init_32 : decode b_G_init 32 = .ok (.dup, 1) := by decide +kernel
theorem d_G_init_33 : decode b_G_init 33 = .ok (.invokespecial 17, 3) := by decide +kernel
theorem d_G_init_36 : decode b_G_init 36 = .ok (.aastore, 1) := by decide +kernel
theorem d_G_init_37 : decode b_G_init 37 = .ok (.iinc 1 1, 3) := by decide +kernel
theorem d_G_init_40 : decode b_G_init 40 = .ok (.goto (-25), 3) := by decide +kernel
theorem d_G_init_43 : decode b_G_init 43 = .ok (.aload_n 0, 1) := by decide +kernel
theorem d_G_init_44 : decode b_G_init 44 = .ok (.iconst 0, 1) := by decide +kernel
theorem d_G_init_45 : decode b_G_init 45 = .ok (.putfield 18, 3) := by decide +kernel
theorem d_G_init_48 : decode b_G_init 48 = .ok (.return_, 1) := by decide +kernel
theorem d_G_goesOn_0 : decode b_G_goesOn 0 = .ok (.aload_n 0, 1) := by decide +kernel
theorem d_G_goesOn_1 : decode b_G_goesOn 1 = .ok (.getfield 18, 3) := by decide +kernel
theorem d_G_goesOn_4 : decode b_G_goesOn 4 = .ok (.ifCond .le 7, 3) := by decide +kernel
theorem d_G_goesOn_7 : decode b_G_goesOn 7 = .ok (.iconst 1, 1) := by decide +kernel
theorem d_G_goesOn_8 : decode b_G_goesOn 8 = .ok (.goto 4, 3) := by decide +kernel
theorem d_G_goesOn_11 : decode b_G_goesOn 11 = .ok (.iconst 0, 1) := by decide +kernel
theorem d_G_goesOn_12 : decode b_G_goesOn 12 = .ok (.ireturn, 1) := by decide +kernel
theorem d_G_begin_0 : decode b_G_begin 0 = .ok (.aload_n 0, 1) := by decide +kernel
theorem d_G_begin_1 : decode b_G_begin 1 = .ok (.iload_n 1, 1) := by decide +kernel
theorem d_G_begin_2 : decode b_G_begin 2 = .ok (.putfield 18, 3) := by decide +kernel
theorem d_G_begin_5 : decode b_G_begin 5 = .ok (.aload_n 0, 1) := by decide +kernel
theorem d_G_begin_6 : decode b_G_begin 6 = .ok (.iconst 0, 1) := by decide +kernel
theorem d_G_begin_7 : decode b_G_begin 7 = .ok (.putfield 22, 3) := by decide +kernel
theorem d_G_begin_10 : decode b_G_begin 10 = .ok (.aload_n 0, 1) := by decide +kernel
theorem d_G_begin_11 : decode b_G_begin 11 = .ok (.iconst 0, 1) := by decide +kernel
theorem d_G_begin_12 : decode b_G_begin 12 = .ok (.putfield 25, 3) := by decide +kernel
theorem d_G_begin_15 : decode b_G_begin 15 = .ok (.aload_n 0, 1) := by decide +kernel
theorem d_G_begin_16 : decode b_G_begin 16 = .ok (.iconst 0, 1) := by decide +kernel
theorem d_G_begin_17 : decode b_G_begin 17 = .ok (.putfield 28, 3) := by decide +kernel
theorem d_G_begin_20 : decode b_G_begin 20 = .ok (.return_, 1) := by decide +kernel
theorem d_G_drop_0 : decode b_G_drop 0 = .ok (.aload_n 0, 1) := by decide +kernel
theorem d_G_drop_1 : decode b_G_drop 1 = .ok (.iconst 0, 1) := by decide +kernel
theorem d_G_drop_2 : decode b_G_drop 2 = .ok (.putfield 18, 3) := by decide +kernel
theorem d_G_drop_5 : decode b_G_drop 5 = .ok (.return_, 1) := by decide +kernel
theorem d_G_advance_0 : decode b_G_advance 0 = .ok (.iconst 0, 1) := by decide +kernel
theorem d_G_advance_1 : decode b_G_advance 1 = .ok (.istore 4, 2) := by decide +kernel
theorem d_G_advance_3 : decode b_G_advance 3 = .ok (.iload 4, 2) := by decide +kernel
theorem d_G_advance_5 : decode b_G_advance 5 = .ok (.iload_n 1, 1) := by decide +kernel
theorem d_G_advance_6 : decode b_G_advance 6 = .ok (.if_icmp .ge 85, 3) := by decide +kernel
theorem d_G_advance_9 : decode b_G_advance 9 = .ok (.aload_n 0, 1) := by decide +kernel
theorem d_G_advance_10 : decode b_G_advance 10 = .ok (.aload_n 2, 1) := by decide +kernel
theorem d_G_advance_11 : decode b_G_advance 11 = .ok (.invokevirtual 31, 3) := by decide +kernel
theorem d_G_advance_14 : decode b_G_advance 14 = .ok (.ifCond .ne 77, 3) := by decide +kernel
theorem d_G_advance_17 : decode b_G_advance 17 = .ok (.aload_n 2, 1) := by decide +kernel
theorem d_G_advance_18 : decode b_G_advance 18 = .ok (.aload_n 0, 1) := by decide +kernel
theorem d_G_advance_19 : decode b_G_advance 19 = .ok (.getfield 25, 3) := by decide +kernel
theorem d_G_advance_22 : decode b_G_advance 22 = .ok (.invokevirtual 35, 3) := by decide +kernel
theorem d_G_advance_25 : decode b_G_advance 25 = .ok (.astore 5, 2) := by decide +kernel
theorem d_G_advance_27 : decode b_G_advance 27 = .ok (.aload 5, 2) := by decide +kernel
theorem d_G_advance_29 : decode b_G_advance 29 = .ok (.ifnonnull 7, 3) := by decide +kernel
theorem d_G_advance_32 : decode b_G_advance 32 = .ok (.aconst_null, 1) := by decide +kernel
theorem d_G_advance_33 : decode b_G_advance 33 = .ok (.goto 12, 3) := by decide +kernel
theorem d_G_advance_36 : decode b_G_advance 36 = .ok (.aload 5, 2) := by decide +kernel
theorem d_G_advance_38 : decode b_G_advance 38 = .ok (.aload_n 0, 1) := by decide +kernel
theorem d_G_advance_39 : decode b_G_advance 39 = .ok (.getfield 28, 3) := by decide +kernel
theorem d_G_advance_42 : decode b_G_advance 42 = .ok (.invokevirtual 41, 3) := by decide +kernel
theorem d_G_advance_45 : decode b_G_advance 45 = .ok (.astore 6, 2) := by decide +kernel
theorem d_G_advance_47 : decode b_G_advance 47 = .ok (.aload 6, 2) := by decide +kernel
theorem d_G_advance_49 : decode b_G_advance 49 = .ok (.ifnull 26, 3) := by decide +kernel
theorem d_G_advance_52 : decode b_G_advance 52 = .ok (.aload_n 3, 1) := by decide +kernel
theorem d_G_advance_53 : decode b_G_advance 53 = .ok (.aload 6, 2) := by decide +kernel
theorem d_G_advance_55 : decode b_G_advance 55 = .ok (.invokevirtual 45, 3) := by decide +kernel
theorem d_G_advance_58 : decode b_G_advance 58 = .ok (.ifCond .eq 17, 3) := by decide +kernel
theorem d_G_advance_61 : decode b_G_advance 61 = .ok (.aload_n 0, 1) := by decide +kernel
theorem d_G_advance_62 : decode b_G_advance 62 = .ok (.aload 6, 2) := by decide +kernel
theorem d_G_advance_64 : decode b_G_advance 64 = .ok (.invokevirtual 51, 3) := by decide +kernel
theorem d_G_advance_67 : decode b_G_advance 67 = .ok (.invokevirtual 57, 3) := by decide +kernel
theorem d_G_advance_70 : decode b_G_advance 70 = .ok (.aload 6, 2) := by decide +kernel
theorem d_G_advance_72 : decode b_G_advance 72 = .ok (.invokevirtual 60, 3) := by decide +kernel
theorem d_G_advance_75 : decode b_G_advance 75 = .ok (.aload_n 0, 1) := by decide +kernel
theorem d_G_advance_76 : decode b_G_advance 76 = .ok (.dup, 1) := by decide +kernel
theorem d_G_advance_77 : decode b_G_advance 77 = .ok (.getfield 28, 3) := by decide +kernel
theorem d_G_advance_80 : decode b_G_advance 80 = .ok (.iconst 1, 1) := by decide +kernel
theorem d_G_advance_81 : decode b_G_advance 81 = .ok (.iadd, 1) := by decide +kernel
theorem d_G_advance_82 : decode b_G_advance 82 = .ok (.putfield 28, 3) := by decide +kernel
theorem d_G_advance_85 : decode b_G_advance 85 = .ok (.iinc 4 1, 3) := by decide +kernel
theorem d_G_advance_88 : decode b_G_advance 88 = .ok (.goto (-85), 3) := by decide +kernel
theorem d_G_advance_91 : decode b_G_advance 91 = .ok (.return_, 1) := by decide +kernel
theorem d_G_cameToAll_0 : decode b_G_cameToAll 0 = .ok (.aload_n 0, 1) := by decide +kernel
theorem d_G_cameToAll_1 : decode b_G_cameToAll 1 = .ok (.getfield 25, 3) := by decide +kernel
theorem d_G_cameToAll_4 : decode b_G_cameToAll 4 = .ok (.aload_n 0, 1) := by decide +kernel
theorem d_G_cameToAll_5 : decode b_G_cameToAll 5 = .ok (.getfield 18, 3) := by decide +kernel
theorem d_G_cameToAll_8 : decode b_G_cameToAll 8 = .ok (.if_icmp .ge 47, 3) := by decide +kernel
theorem d_G_cameToAll_11 : decode b_G_cameToAll 11 = .ok (.aload_n 1, 1) := by decide +kernel
theorem d_G_cameToAll_12 : decode b_G_cameToAll 12 = .ok (.aload_n 0, 1) := by decide +kernel
theorem d_G_cameToAll_13 : decode b_G_cameToAll 13 = .ok (.getfield 25, 3) := by decide +kernel
theorem d_G_cameToAll_16 : decode b_G_cameToAll 16 = .ok (.invokevirtual 35, 3) := by decide +kernel
theorem d_G_cameToAll_19 : decode b_G_cameToAll 19 = .ok (.astore_n 2, 1) := by decide +kernel
theorem d_G_cameToAll_20 : decode b_G_cameToAll 20 = .ok (.aload_n 2, 1) := by decide +kernel
theorem d_G_cameToAll_21 : decode b_G_cameToAll 21 = .ok (.ifnull 16, 3) := by decide +kernel
theorem d_G_cameToAll_24 : decode b_G_cameToAll 24 = .ok (.aload_n 0, 1) := by decide +kernel
theorem d_G_cameToAll_25 : decode b_G_cameToAll 25 = .ok (.getfield 28, 3) := by decide +kernel
theorem d_G_cameToAll_28 : decode b_G_cameToAll 28 = .ok (.aload_n 2, 1) := by decide +kernel
theorem d_G_cameToAll_29 : decode b_G_cameToAll 29 = .ok (.invokevirtual 64, 3) := by decide +kernel
theorem d_G_cameToAll_32 : decode b_G_cameToAll 32 = .ok (.if_icmp .ge 5, 3) := by decide +kernel
theorem d_G_cameToAll_35 : decode b_G_cameToAll 35 = .ok (.iconst 0, 1) := by decide +kernel
theorem d_G_cameToAll_36 : decode b_G_cameToAll 36 = .ok (.ireturn, 1) := by decide +kernel
theorem d_G_cameToAll_37 : decode b_G_cameToAll 37 = .ok (.aload_n 0, 1) := by decide +kernel
theorem d_G_cameToAll_38 : decode b_G_cameToAll 38 = .ok (.dup, 1) := by decide +kernel
theorem d_G_cameToAll_39 : decode b_G_cameToAll 39 = .ok (.getfield 25, 3) := by decide +kernel
theorem d_G_cameToAll_42 : decode b_G_cameToAll 42 = .ok (.iconst 1, 1) := by decide +kernel
theorem d_G_cameToAll_43 : decode b_G_cameToAll 43 = .ok (.iadd, 1) := by decide +kernel
theorem d_G_cameToAll_44 : decode b_G_cameToAll 44 = .ok (.putfield 25, 3) := by decide +kernel
theorem d_G_cameToAll_47 : decode b_G_cameToAll 47 = .ok (.aload_n 0, 1) := by decide +kernel
theorem d_G_cameToAll_48 : decode b_G_cameToAll 48 = .ok (.iconst 0, 1) := by decide +kernel
theorem d_G_cameToAll_49 : decode b_G_cameToAll 49 = .ok (.putfield 28, 3) := by decide +kernel
theorem d_G_cameToAll_52 : decode b_G_cameToAll 52 = .ok (.goto (-52), 3) := by decide +kernel
theorem d_G_cameToAll_55 : decode b_G_cameToAll 55 = .ok (.iconst 1, 1) := by decide +kernel
theorem d_G_cameToAll_56 : decode b_G_cameToAll 56 = .ok (.ireturn, 1) := by decide +kernel
theorem d_G_publish_0 : decode b_G_publish 0 = .ok (.iconst 0, 1) := by decide +kernel
theorem d_G_publish_1 : decode b_G_publish 1 = .ok (.istore_n 3, 1) := by decide +kernel
theorem d_G_publish_2 : decode b_G_publish 2 = .ok (.iload_n 3, 1) := by decide +kernel
theorem d_G_publish_3 : decode b_G_publish 3 = .ok (.aload_n 0, 1) := by decide +kernel
theorem d_G_publish_4 : decode b_G_publish 4 = .ok (.getfield 22, 3) := by decide +kernel
theorem d_G_publish_7 : decode b_G_publish 7 = .ok (.if_icmp .ge 62, 3) := by decide +kernel
theorem d_G_publish_10 : decode b_G_publish 10 = .ok (.aload_n 0, 1) := by decide +kernel
theorem d_G_publish_11 : decode b_G_publish 11 = .ok (.getfield 11, 3) := by decide +kernel
theorem d_G_publish_14 : decode b_G_publish 14 = .ok (.iload_n 3, 1) := by decide +kernel
theorem d_G_publish_15 : decode b_G_publish 15 = .ok (.aaload, 1) := by decide +kernel
theorem d_G_publish_16 : decode b_G_publish 16 = .ok (.astore 4, 2) := by decide +kernel
theorem d_G_publish_18 : decode b_G_publish 18 = .ok (.aload_n 1, 1) := by decide +kernel
theorem d_G_publish_19 : decode b_G_publish 19 = .ok (.iload_n 3, 1) := by decide +kernel
theorem d_G_publish_20 : decode b_G_publish 20 = .ok (.invokevirtual 35, 3) := by decide +kernel
theorem d_G_publish_23 : decode b_G_publish 23 = .ok (.astore 5, 2) := by decide +kernel
theorem d_G_publish_25 : decode b_G_publish 25 = .ok (.aload 4, 2) := by decide +kernel
theorem d_G_publish_27 : decode b_G_publish 27 = .ok (.aload 5, 2) := by decide +kernel
theorem d_G_publish_29 : decode b_G_publish 29 = .ok (.ifnonnull 7, 3) := by decide +kernel
theorem d_G_publish_32 : decode b_G_publish 32 = .ok (.iconst 0, 1) := by decide +kernel
theorem d_G_publish_33 : decode b_G_publish 33 = .ok (.goto 8, 3) := by decide +kernel
theorem d_G_publish_36 : decode b_G_publish 36 = .ok (.aload 5, 2) := by decide +kernel
theorem d_G_publish_38 : decode b_G_publish 38 = .ok (.invokevirtual 67, 3) := by decide +kernel
theorem d_G_publish_41 : decode b_G_publish 41 = .ok (.invokevirtual 70, 3) := by decide +kernel
theorem d_G_publish_44 : decode b_G_publish 44 = .ok (.aload 4, 2) := by decide +kernel
theorem d_G_publish_46 : decode b_G_publish 46 = .ok (.aload_n 2, 1) := by decide +kernel
theorem d_G_publish_47 : decode b_G_publish 47 = .ok (.invokestatic 74, 3) := by decide +kernel
theorem d_G_publish_50 : decode b_G_publish 50 = .ok (.aload_n 0, 1) := by decide +kernel
theorem d_G_publish_51 : decode b_G_publish 51 = .ok (.getfield 11, 3) := by decide +kernel
theorem d_G_publish_54 : decode b_G_publish 54 = .ok (.iload_n 3, 1) := by decide +kernel
theorem d_G_publish_55 : decode b_G_publish 55 = .ok (.aload_n 1, 1) := by decide +kernel
theorem d_G_publish_56 : decode b_G_publish 56 = .ok (.iload_n 3, 1) := by decide +kernel
theorem d_G_publish_57 : decode b_G_publish 57 = .ok (.aload 4, 2) := by decide +kernel
theorem d_G_publish_59 : decode b_G_publish 59 = .ok (.invokevirtual 78, 3) := by decide +kernel
theorem d_G_publish_62 : decode b_G_publish 62 = .ok (.aastore, 1) := by decide +kernel
theorem d_G_publish_63 : decode b_G_publish 63 = .ok (.iinc 3 1, 3) := by decide +kernel
theorem d_G_publish_66 : decode b_G_publish 66 = .ok (.goto (-64), 3) := by decide +kernel
theorem d_G_publish_69 : decode b_G_publish 69 = .ok (.aload_n 0, 1) := by decide +kernel
theorem d_G_publish_70 : decode b_G_publish 70 = .ok (.getfield 22, 3) := by decide +kernel
theorem d_G_publish_73 : decode b_G_publish 73 = .ok (.istore_n 3, 1) := by decide +kernel
theorem d_G_publish_74 : decode b_G_publish 74 = .ok (.iload_n 3, 1) := by decide +kernel
theorem d_G_publish_75 : decode b_G_publish 75 = .ok (.aload_n 0, 1) := by decide +kernel
theorem d_G_publish_76 : decode b_G_publish 76 = .ok (.getfield 18, 3) := by decide +kernel
theorem d_G_publish_79 : decode b_G_publish 79 = .ok (.if_icmp .ge 17, 3) := by decide +kernel
theorem d_G_publish_82 : decode b_G_publish 82 = .ok (.aload_n 1, 1) := by decide +kernel
theorem d_G_publish_83 : decode b_G_publish 83 = .ok (.aload_n 0, 1) := by decide +kernel
theorem d_G_publish_84 : decode b_G_publish 84 = .ok (.getfield 22, 3) := by decide +kernel
theorem d_G_publish_87 : decode b_G_publish 87 = .ok (.invokevirtual 82, 3) := by decide +kernel
theorem d_G_publish_90 : decode b_G_publish 90 = .ok (.iinc 3 1, 3) := by decide +kernel
theorem d_G_publish_93 : decode b_G_publish 93 = .ok (.goto (-19), 3) := by decide +kernel
theorem d_G_publish_96 : decode b_G_publish 96 = .ok (.aload_n 0, 1) := by decide +kernel
theorem d_G_publish_97 : decode b_G_publish 97 = .ok (.invokevirtual 85, 3) := by decide +kernel
theorem d_G_publish_100 : decode b_G_publish 100 = .ok (.return_, 1) := by decide +kernel
theorem d_G_pointToCopies_0 : decode b_G_pointToCopies 0 = .ok (.iconst 0, 1) := by decide +kernel
theorem d_G_pointToCopies_1 : decode b_G_pointToCopies 1 = .ok (.istore_n 2, 1) := by decide +kernel
theorem d_G_pointToCopies_2 : decode b_G_pointToCopies 2 = .ok (.iload_n 2, 1) := by decide +kernel
theorem d_G_pointToCopies_3 : decode b_G_pointToCopies 3 = .ok (.aload_n 0, 1) := by decide +kernel
theorem d_G_pointToCopies_4 : decode b_G_pointToCopies 4 = .ok (.invokevirtual 64, 3) := by decide +kernel
theorem d_G_pointToCopies_7 : decode b_G_pointToCopies 7 = .ok (.if_icmp .ge 28, 3) := by decide +kernel
theorem d_G_pointToCopies_10 : decode b_G_pointToCopies 10 = .ok (.aload_n 0, 1) := by decide +kernel
theorem d_G_pointToCopies_11 : decode b_G_pointToCopies 11 = .ok (.iload_n 2, 1) := by decide +kernel
theorem d_G_pointToCopies_12 : decode b_G_pointToCopies 12 = .ok (.invokevirtual 41, 3) := by decide +kernel
theorem d_G_pointToCopies_15 : decode b_G_pointToCopies 15 = .ok (.astore_n 3, 1) := by decide +kernel
theorem d_G_pointToCopies_16 : decode b_G_pointToCopies 16 = .ok (.aload_n 3, 1) := by decide +kernel
theorem d_G_pointToCopies_17 : decode b_G_pointToCopies 17 = .ok (.ifnull 12, 3) := by decide +kernel
theorem d_G_pointToCopies_20 : decode b_G_pointToCopies 20 = .ok (.aload_n 1, 1) := by decide +kernel
theorem d_G_pointToCopies_21 : decode b_G_pointToCopies 21 = .ok (.aload_n 3, 1) := by decide +kernel
theorem d_G_pointToCopies_22 : decode b_G_pointToCopies 22 = .ok (.getfield 88, 3) := by decide +kernel
theorem d_G_pointToCopies_25 : decode b_G_pointToCopies 25 = .ok (.aload_n 3, 1) := by decide +kernel
theorem d_G_pointToCopies_26 : decode b_G_pointToCopies 26 = .ok (.invokevirtual 92, 3) := by decide +kernel
theorem d_G_pointToCopies_29 : decode b_G_pointToCopies 29 = .ok (.iinc 2 1, 3) := by decide +kernel
theorem d_G_pointToCopies_32 : decode b_G_pointToCopies 32 = .ok (.goto (-30), 3) := by decide +kernel
theorem d_G_pointToCopies_35 : decode b_G_pointToCopies 35 = .ok (.return_, 1) := by decide +kernel
theorem d_G_outputFor_0 : decode b_G_outputFor 0 = .ok (.aload_n 0, 1) := by decide +kernel
theorem d_G_outputFor_1 : decode b_G_outputFor 1 = .ok (.getfield 22, 3) := by decide +kernel
theorem d_G_outputFor_4 : decode b_G_outputFor 4 = .ok (.ifCond .le 28, 3) := by decide +kernel
theorem d_G_outputFor_7 : decode b_G_outputFor 7 = .ok (.aload_n 0, 1) := by decide +kernel
theorem d_G_outputFor_8 : decode b_G_outputFor 8 = .ok (.getfield 11, 3) := by decide +kernel
theorem d_G_outputFor_11 : decode b_G_outputFor 11 = .ok (.aload_n 0, 1) := by decide +kernel
theorem d_G_outputFor_12 : decode b_G_outputFor 12 = .ok (.getfield 22, 3) := by decide +kernel
theorem d_G_outputFor_15 : decode b_G_outputFor 15 = .ok (.iconst 1, 1) := by decide +kernel
theorem d_G_outputFor_16 : decode b_G_outputFor 16 = .ok (.isub, 1) := by decide +kernel
theorem d_G_outputFor_17 : decode b_G_outputFor 17 = .ok (.aaload, 1) := by decide +kernel
theorem d_G_outputFor_18 : decode b_G_outputFor 18 = .ok (.invokevirtual 96, 3) := by decide +kernel
theorem d_G_outputFor_21 : decode b_G_outputFor 21 = .ok (.iload_n 1, 1) := by decide +kernel
theorem d_G_outputFor_22 : decode b_G_outputFor 22 = .ok (.invokevirtual 100, 3) := by decide +kernel
theorem d_G_outputFor_25 : decode b_G_outputFor 25 = .ok (.ifCond .eq 7, 3) := by decide +kernel
theorem d_G_outputFor_28 : decode b_G_outputFor 28 = .ok (.iconst 1, 1) := by decide +kernel
theorem d_G_outputFor_29 : decode b_G_outputFor 29 = .ok (.goto 4, 3) := by decide +kernel
theorem d_G_outputFor_32 : decode b_G_outputFor 32 = .ok (.iconst 0, 1) := by decide +kernel
theorem d_G_outputFor_33 : decode b_G_outputFor 33 = .ok (.istore_n 2, 1) := by decide +kernel
theorem d_G_outputFor_34 : decode b_G_outputFor 34 = .ok (.iload_n 2, 1) := by decide +kernel
theorem d_G_outputFor_35 : decode b_G_outputFor 35 = .ok (.ifCond .ne 38, 3) := by decide +kernel
theorem d_G_outputFor_38 : decode b_G_outputFor 38 = .ok (.aload_n 0, 1) := by decide +kernel
theorem d_G_outputFor_39 : decode b_G_outputFor 39 = .ok (.getfield 22, 3) := by decide +kernel
theorem d_G_outputFor_42 : decode b_G_outputFor 42 = .ok (.aload_n 0, 1) := by decide +kernel
theorem d_G_outputFor_43 : decode b_G_outputFor 43 = .ok (.getfield 11, 3) := by decide +kernel
theorem d_G_outputFor_46 : decode b_G_outputFor 46 = .ok (.arraylength, 1) := by decide +kernel
theorem d_G_outputFor_47 : decode b_G_outputFor 47 = .ok (.if_icmp .ge 26, 3) := by decide +kernel
theorem d_G_outputFor_50 : decode b_G_outputFor 50 = .ok (.aload_n 0, 1) := by decide +kernel
theorem d_G_outputFor_51 : decode b_G_outputFor 51 = .ok (.getfield 11, 3) := by decide +kernel
theorem d_G_outputFor_54 : decode b_G_outputFor 54 = .ok (.aload_n 0, 1) := by decide +kernel
theorem d_G_outputFor_55 : decode b_G_outputFor 55 = .ok (.getfield 22, 3) := by decide +kernel
theorem d_G_outputFor_58 : decode b_G_outputFor 58 = .ok (.aaload, 1) := by decide +kernel
theorem d_G_outputFor_59 : decode b_G_outputFor 59 = .ok (.iconst 0, 1) := by decide +kernel
theorem d_G_outputFor_60 : decode b_G_outputFor 60 = .ok (.invokevirtual 106, 3) := by decide +kernel
theorem d_G_outputFor_63 : decode b_G_outputFor 63 = .ok (.aload_n 0, 1) := by decide +kernel
theorem d_G_outputFor_64 : decode b_G_outputFor 64 = .ok (.dup, 1) := by decide +kernel
theorem d_G_outputFor_65 : decode b_G_outputFor 65 = .ok (.getfield 22, 3) := by decide +kernel
theorem d_G_outputFor_68 : decode b_G_outputFor 68 = .ok (.iconst 1, 1) := by decide +kernel
theorem d_G_outputFor_69 : decode b_G_outputFor 69 = .ok (.iadd, 1) := by decide +kernel
theorem d_G_outputFor_70 : decode b_G_outputFor 70 = .ok (.putfield 22, 3) := by decide +kernel
theorem d_G_outputFor_73 : decode b_G_outputFor 73 = .ok (.aload_n 0, 1) := by decide +kernel
theorem d_G_outputFor_74 : decode b_G_outputFor 74 = .ok (.getfield 11, 3) := by decide +kernel
theorem d_G_outputFor_77 : decode b_G_outputFor 77 = .ok (.aload_n 0, 1) := by decide +kernel
theorem d_G_outputFor_78 : decode b_G_outputFor 78 = .ok (.getfield 22, 3) := by decide +kernel
theorem d_G_outputFor_81 : decode b_G_outputFor 81 = .ok (.iconst 1, 1) := by decide +kernel
theorem d_G_outputFor_82 : decode b_G_outputFor 82 = .ok (.isub, 1) := by decide +kernel
theorem d_G_outputFor_83 : decode b_G_outputFor 83 = .ok (.aaload, 1) := by decide +kernel
theorem d_G_outputFor_84 : decode b_G_outputFor 84 = .ok (.areturn, 1) := by decide +kernel
theorem d_O_init_0 : decode b_O_init 0 = .ok (.aload_n 0, 1) := by decide +kernel
theorem d_O_init_1 : decode b_O_init 1 = .ok (.invokespecial 1, 3) := by decide +kernel
theorem d_O_init_4 : decode b_O_init 4 = .ok (.aload_n 0, 1) := by decide +kernel
theorem d_O_init_5 : decode b_O_init 5 = .ok (.iload_n 1, 1) := by decide +kernel
theorem d_O_init_6 : decode b_O_init 6 = .ok (.newarray .byte, 2) := by decide +kernel
theorem d_O_init_8 : decode b_O_init 8 = .ok (.putfield 7, 3) := by decide +kernel
theorem d_O_init_11 : decode b_O_init 11 = .ok (.aload_n 0, 1) := by decide +kernel
theorem d_O_init_12 : decode b_O_init 12 = .ok (.iconst 0, 1) := by decide +kernel
theorem d_O_init_13 : decode b_O_init 13 = .ok (.putfield 13, 3) := by decide +kernel
theorem d_O_init_16 : decode b_O_init 16 = .ok (.return_, 1) := by decide +kernel
theorem d_O_size_0 : decode b_O_size 0 = .ok (.aload_n 0, 1) := by decide +kernel
theorem d_O_size_1 : decode b_O_size 1 = .ok (.getfield 13, 3) := by decide +kernel
theorem d_O_size_4 : decode b_O_size 4 = .ok (.ireturn, 1) := by decide +kernel
theorem d_O_has_0 : decode b_O_has 0 = .ok (.iload_n 1, 1) := by decide +kernel
theorem d_O_has_1 : decode b_O_has 1 = .ok (.ifCond .lt 15, 3) := by decide +kernel
theorem d_O_has_4 : decode b_O_has 4 = .ok (.iload_n 1, 1) := by decide +kernel
theorem d_O_has_5 : decode b_O_has 5 = .ok (.aload_n 0, 1) := by decide +kernel
theorem d_O_has_6 : decode b_O_has 6 = .ok (.getfield 13, 3) := by decide +kernel
theorem d_O_has_9 : decode b_O_has 9 = .ok (.if_icmp .ge 7, 3) := by decide +kernel
theorem d_O_has_12 : decode b_O_has 12 = .ok (.iconst 1, 1) := by decide +kernel
theorem d_O_has_13 : decode b_O_has 13 = .ok (.goto 4, 3) := by decide +kernel
theorem d_O_has_16 : decode b_O_has 16 = .ok (.iconst 0, 1) := by decide +kernel
theorem d_O_has_17 : decode b_O_has 17 = .ok (.ireturn, 1) := by decide +kernel
theorem d_O_hasRoomFor_0 : decode b_O_hasRoomFor 0 = .ok (.aload_n 0, 1) := by decide +kernel
theorem d_O_hasRoomFor_1 : decode b_O_hasRoomFor 1 = .ok (.getfield 13, 3) := by decide +kernel
theorem d_O_hasRoomFor_4 : decode b_O_hasRoomFor 4 = .ok (.iload_n 1, 1) := by decide +kernel
theorem d_O_hasRoomFor_5 : decode b_O_hasRoomFor 5 = .ok (.iadd, 1) := by decide +kernel
theorem d_O_hasRoomFor_6 : decode b_O_hasRoomFor 6 = .ok (.aload_n 0, 1) := by decide +kernel
theorem d_O_hasRoomFor_7 : decode b_O_hasRoomFor 7 = .ok (.getfield 7, 3) := by decide +kernel
theorem d_O_hasRoomFor_10 : decode b_O_hasRoomFor 10 = .ok (.arraylength, 1) := by decide +kernel
theorem d_O_hasRoomFor_11 : decode b_O_hasRoomFor 11 = .ok (.if_icmp .gt 7, 3) := by decide +kernel
theorem d_O_hasRoomFor_14 : decode b_O_hasRoomFor 14 = .ok (.iconst 1, 1) := by decide +kernel
theorem d_O_hasRoomFor_15 : decode b_O_hasRoomFor 15 = .ok (.goto 4, 3) := by decide +kernel
theorem d_O_hasRoomFor_18 : decode b_O_hasRoomFor 18 = .ok (.iconst 0, 1) := by decide +kernel
theorem d_O_hasRoomFor_19 : decode b_O_hasRoomFor 19 = .ok (.ireturn, 1) := by decide +kernel
theorem d_O_at_0 : decode b_O_at 0 = .ok (.iload_n 1, 1) := by decide +kernel
theorem d_O_at_1 : decode b_O_at 1 = .ok (.ifCond .lt 24, 3) := by decide +kernel
theorem d_O_at_4 : decode b_O_at 4 = .ok (.iload_n 1, 1) := by decide +kernel
theorem d_O_at_5 : decode b_O_at 5 = .ok (.aload_n 0, 1) := by decide +kernel
theorem d_O_at_6 : decode b_O_at 6 = .ok (.getfield 13, 3) := by decide +kernel
theorem d_O_at_9 : decode b_O_at 9 = .ok (.if_icmp .ge 16, 3) := by decide +kernel
theorem d_O_at_12 : decode b_O_at 12 = .ok (.aload_n 0, 1) := by decide +kernel
theorem d_O_at_13 : decode b_O_at 13 = .ok (.getfield 7, 3) := by decide +kernel
theorem d_O_at_16 : decode b_O_at 16 = .ok (.iload_n 1, 1) := by decide +kernel
theorem d_O_at_17 : decode b_O_at 17 = .ok (.baload, 1) := by decide +kernel
theorem d_O_at_18 : decode b_O_at 18 = .ok (.sipush 255, 3) := by decide +kernel
theorem d_O_at_21 : decode b_O_at 21 = .ok (.iand, 1) := by decide +kernel
theorem d_O_at_22 : decode b_O_at 22 = .ok (.goto 4, 3) := by decide +kernel
theorem d_O_at_25 : decode b_O_at 25 = .ok (.iconst 0, 1) := by decide +kernel
theorem d_O_at_26 : decode b_O_at 26 = .ok (.ireturn, 1) := by decide +kernel
theorem d_O_set_0 : decode b_O_set 0 = .ok (.aload_n 0, 1) := by decide +kernel
theorem d_O_set_1 : decode b_O_set 1 = .ok (.iload_n 1, 1) := by decide +kernel
theorem d_O_set_2 : decode b_O_set 2 = .ok (.invokevirtual 17, 3) := by decide +kernel
theorem d_O_set_5 : decode b_O_set 5 = .ok (.ifCond .eq 11, 3) := by decide +kernel
theorem d_O_set_8 : decode b_O_set 8 = .ok (.aload_n 0, 1) := by decide +kernel
theorem d_O_set_9 : decode b_O_set 9 = .ok (.getfield 7, 3) := by decide +kernel
theorem d_O_set_12 : decode b_O_set 12 = .ok (.iload_n 1, 1) := by decide +kernel
theorem d_O_set_13 : decode b_O_set 13 = .ok (.iload_n 2, 1) := by decide +kernel
theorem d_O_set_14 : decode b_O_set 14 = .ok (.i2b, 1) := by decide +kernel
theorem d_O_set_15 : decode b_O_set 15 = .ok (.bastore, 1) := by decide +kernel
theorem d_O_set_16 : decode b_O_set 16 = .ok (.return_, 1) := by decide +kernel
theorem d_O_cutTo_0 : decode b_O_cutTo 0 = .ok (.iload_n 1, 1) := by decide +kernel
theorem d_O_cutTo_1 : decode b_O_cutTo 1 = .ok (.ifCond .lt 16, 3) := by decide +kernel
theorem d_O_cutTo_4 : decode b_O_cutTo 4 = .ok (.iload_n 1, 1) := by decide +kernel
theorem d_O_cutTo_5 : decode b_O_cutTo 5 = .ok (.aload_n 0, 1) := by decide +kernel
theorem d_O_cutTo_6 : decode b_O_cutTo 6 = .ok (.getfield 13, 3) := by decide +kernel
theorem d_O_cutTo_9 : decode b_O_cutTo 9 = .ok (.if_icmp .ge 8, 3) := by decide +kernel
theorem d_O_cutTo_12 : decode b_O_cutTo 12 = .ok (.aload_n 0, 1) := by decide +kernel
theorem d_O_cutTo_13 : decode b_O_cutTo 13 = .ok (.iload_n 1, 1) := by decide +kernel
theorem d_O_cutTo_14 : decode b_O_cutTo 14 = .ok (.putfield 13, 3) := by decide +kernel
theorem d_O_cutTo_17 : decode b_O_cutTo 17 = .ok (.return_, 1) := by decide +kernel
theorem d_O_addByte_0 : decode b_O_addByte 0 = .ok (.aload_n 0, 1) := by decide +kernel
theorem d_O_addByte_1 : decode b_O_addByte 1 = .ok (.getfield 13, 3) := by decide +kernel
theorem d_O_addByte_4 : decode b_O_addByte 4 = .ok (.aload_n 0, 1) := by decide +kernel
theorem d_O_addByte_5 : decode b_O_addByte 5 = .ok (.getfield 7, 3) := by decide +kernel
theorem d_O_addByte_8 : decode b_O_addByte 8 = .ok (.arraylength, 1) := by decide +kernel
theorem d_O_addByte_9 : decode b_O_addByte 9 = .ok (.if_icmp .ge 24, 3) := by decide +kernel
theorem d_O_addByte_12 : decode b_O_addByte 12 = .ok (.aload_n 0, 1) := by decide +kernel
theorem d_O_addByte_13 : decode b_O_addByte 13 = .ok (.getfield 7, 3) := by decide +kernel
theorem d_O_addByte_16 : decode b_O_addByte 16 = .ok (.aload_n 0, 1) := by decide +kernel
theorem d_O_addByte_17 : decode b_O_addByte 17 = .ok (.getfield 13, 3) := by decide +kernel
theorem d_O_addByte_20 : decode b_O_addByte 20 = .ok (.iload_n 1, 1) := by decide +kernel
theorem d_O_addByte_21 : decode b_O_addByte 21 = .ok (.i2b, 1) := by decide +kernel
theorem d_O_addByte_22 : decode b_O_addByte 22 = .ok (.bastore, 1) := by decide +kernel
theorem d_O_addByte_23 : decode b_O_addByte 23 = .ok (.aload_n 0, 1) := by decide +kernel
theorem d_O_addByte_24 : decode b_O_addByte 24 = .ok (.dup, 1) := by decide +kernel
theorem d_O_addByte_25 : decode b_O_addByte 25 = .ok (.getfield 13, 3) := by decide +kernel
theorem d_O_addByte_28 : decode b_O_addByte 28 = .ok (.iconst 1, 1) := by decide +kernel
theorem d_O_addByte_29 : decode b_O_addByte 29 = .ok (.iadd, 1) := by decide +kernel
theorem d_O_addByte_30 : decode b_O_addByte 30 = .ok (.putfield 13, 3) := by decide +kernel
theorem d_O_addByte_33 : decode b_O_addByte 33 = .ok (.return_, 1) := by decide +kernel
theorem d_O_addNumber_0 : decode b_O_addNumber 0 = .ok (.iload_n 3, 1) := by decide +kernel
theorem d_O_addNumber_1 : decode b_O_addNumber 1 = .ok (.iconst 1, 1) := by decide +kernel
theorem d_O_addNumber_2 : decode b_O_addNumber 2 = .ok (.isub, 1) := by decide +kernel
theorem d_O_addNumber_3 : decode b_O_addNumber 3 = .ok (.istore 4, 2) := by decide +kernel
theorem d_O_addNumber_5 : decode b_O_addNumber 5 = .ok (.iload 4, 2) := by decide +kernel
theorem d_O_addNumber_7 : decode b_O_addNumber 7 = .ok (.ifCond .lt 21, 3) := by decide +kernel
theorem d_O_addNumber_10 : decode b_O_addNumber 10 = .ok (.aload_n 0, 1) := by decide +kernel
theorem d_O_addNumber_11 : decode b_O_addNumber 11 = .ok (.lload_n 1, 1) := by decide +kernel
theorem d_O_addNumber_12 : decode b_O_addNumber 12 = .ok (.bipush 8, 2) := by decide +kernel
theorem d_O_addNumber_14 : decode b_O_addNumber 14 = .ok (.iload 4, 2) := by decide +kernel
theorem d_O_addNumber_16 : decode b_O_addNumber 16 = .ok (.imul, 1) := by decide +kernel
theorem d_O_addNumber_17 : decode b_O_addNumber 17 = .ok (.lushr, 1) := by decide +kernel
theorem d_O_addNumber_18 : decode b_O_addNumber 18 = .ok (.l2i, 1) := by decide +kernel
theorem d_O_addNumber_19 : decode b_O_addNumber 19 = .ok (.invokevirtual 21, 3) := by decide +kernel
theorem d_O_addNumber_22 : decode b_O_addNumber 22 = .ok (.iinc 4 (-1), 3) := by decide +kernel
theorem d_O_addNumber_25 : decode b_O_addNumber 25 = .ok (.goto (-20), 3) := by decide +kernel
theorem d_O_addNumber_28 : decode b_O_addNumber 28 = .ok (.return_, 1) := by decide +kernel
theorem d_O_addFrom_0 : decode b_O_addFrom 0 = .ok (.iconst 0, 1) := by decide +kernel
theorem d_O_addFrom_1 : decode b_O_addFrom 1 = .ok (.istore 4, 2) := by decide +kernel
theorem d_O_addFrom_3 : decode b_O_addFrom 3 = .ok (.iload 4, 2) := by decide +kernel
theorem d_O_addFrom_5 : decode b_O_addFrom 5 = .ok (.iload_n 3, 1) := by decide +kernel
theorem d_O_addFrom_6 : decode b_O_addFrom 6 = .ok (.if_icmp .ge 21, 3) := by decide +kernel
theorem d_O_addFrom_9 : decode b_O_addFrom 9 = .ok (.aload_n 0, 1) := by decide +kernel
theorem d_O_addFrom_10 : decode b_O_addFrom 10 = .ok (.aload_n 1, 1) := by decide +kernel
theorem d_O_addFrom_11 : decode b_O_addFrom 11 = .ok (.iload_n 2, 1) := by decide +kernel
theorem d_O_addFrom_12 : decode b_O_addFrom 12 = .ok (.iload 4, 2) := by decide +kernel
theorem d_O_addFrom_14 : decode b_O_addFrom 14 = .ok (.iadd, 1) := by decide +kernel
theorem d_O_addFrom_15 : decode b_O_addFrom 15 = .ok (.invokevirtual 25, 3) := by decide +kernel
theorem d_O_addFrom_18 : decode b_O_addFrom 18 = .ok (.invokevirtual 21, 3) := by decide +kernel
theorem d_O_addFrom_21 : decode b_O_addFrom 21 = .ok (.iinc 4 1, 3) := by decide +kernel
theorem d_O_addFrom_24 : decode b_O_addFrom 24 = .ok (.goto (-21), 3) := by decide +kernel
theorem d_O_addFrom_27 : decode b_O_addFrom 27 = .ok (.return_, 1) := by decide +kernel
theorem d_O_number_0 : decode b_O_number 0 = .ok (.lconst 0, 1) := by decide +kernel
theorem d_O_number_1 : decode b_O_number 1 = .ok (.lstore_n 3, 1) := by decide +kernel
theorem d_O_number_2 : decode b_O_number 2 = .ok (.iconst 0, 1) := by decide +kernel
theorem d_O_number_3 : decode b_O_number 3 = .ok (.istore 5, 2) := by decide +kernel
theorem d_O_number_5 : decode b_O_number 5 = .ok (.iload 5, 2) := by decide +kernel
theorem d_O_number_7 : decode b_O_number 7 = .ok (.iload_n 2, 1) := by decide +kernel
theorem d_O_number_8 : decode b_O_number 8 = .ok (.if_icmp .ge 24, 3) := by decide +kernel
theorem d_O_number_11 : decode b_O_number 11 = .ok (.lload_n 3, 1) := by decide +kernel
theorem d_O_number_12 : decode b_O_number 12 = .ok (.bipush 8, 2) := by decide +kernel
theorem d_O_number_14 : decode b_O_number 14 = .ok (.lshl, 1) := by decide +kernel
theorem d_O_number_15 : decode b_O_number 15 = .ok (.aload_n 0, 1) := by decide +kernel
theorem d_O_number_16 : decode b_O_number 16 = .ok (.iload_n 1, 1) := by decide +kernel
theorem d_O_number_17 : decode b_O_number 17 = .ok (.iload 5, 2) := by decide +kernel
theorem d_O_number_19 : decode b_O_number 19 = .ok (.iadd, 1) := by decide +kernel
theorem d_O_number_20 : decode b_O_number 20 = .ok (.invokevirtual 25, 3) := by decide +kernel
theorem d_O_number_23 : decode b_O_number 23 = .ok (.i2l, 1) := by decide +kernel
theorem d_O_number_24 : decode b_O_number 24 = .ok (.lor, 1) := by decide +kernel
theorem d_O_number_25 : decode b_O_number 25 = .ok (.lstore_n 3, 1) := by decide +kernel
theorem d_O_number_26 : decode b_O_number 26 = .ok (.iinc 5 1, 3) := by decide +kernel
theorem d_O_number_29 : decode b_O_number 29 = .ok (.goto (-24), 3) := by decide +kernel
theorem d_O_number_32 : decode b_O_number 32 = .ok (.lload_n 3, 1) := by decide +kernel
theorem d_O_number_33 : decode b_O_number 33 = .ok (.lreturn, 1) := by decide +kernel
theorem d_O_setSum_0 : decode b_O_setSum 0 = .ok (.iconst 0, 1) := by decide +kernel
theorem d_O_setSum_1 : decode b_O_setSum 1 = .ok (.istore 4, 2) := by decide +kernel
theorem d_O_setSum_3 : decode b_O_setSum 3 = .ok (.iload 4, 2) := by decide +kernel
theorem d_O_setSum_5 : decode b_O_setSum 5 = .ok (.iconst 4, 1) := by decide +kernel
theorem d_O_setSum_6 : decode b_O_setSum 6 = .ok (.if_icmp .ge 27, 3) := by decide +kernel
theorem d_O_setSum_9 : decode b_O_setSum 9 = .ok (.aload_n 0, 1) := by decide +kernel
theorem d_O_setSum_10 : decode b_O_setSum 10 = .ok (.iload_n 1, 1) := by decide +kernel
theorem d_O_setSum_11 : decode b_O_setSum 11 = .ok (.iload 4, 2) := by decide +kernel
theorem d_O_setSum_13 : decode b_O_setSum 13 = .ok (.iadd, 1) := by decide +kernel
theorem d_O_setSum_14 : decode b_O_setSum 14 = .ok (.lload_n 2, 1) := by decide +kernel
theorem d_O_setSum_15 : decode b_O_setSum 15 = .ok (.bipush 8, 2) := by decide +kernel
theorem d_O_setSum_17 : decode b_O_setSum 17 = .ok (.iconst 3, 1) := by decide +kernel
theorem d_O_setSum_18 : decode b_O_setSum 18 = .ok (.iload 4, 2) := by decide +kernel
theorem d_O_setSum_20 : decode b_O_setSum 20 = .ok (.isub, 1) := by decide +kernel
theorem d_O_setSum_21 : decode b_O_setSum 21 = .ok (.imul, 1) := by decide +kernel
theorem d_O_setSum_22 : decode b_O_setSum 22 = .ok (.lushr, 1) := by decide +kernel
theorem d_O_setSum_23 : decode b_O_setSum 23 = .ok (.l2i, 1) := by decide +kernel
theorem d_O_setSum_24 : decode b_O_setSum 24 = .ok (.invokevirtual 31, 3) := by decide +kernel
theorem d_O_setSum_27 : decode b_O_setSum 27 = .ok (.iinc 4 1, 3) := by decide +kernel
theorem d_O_setSum_30 : decode b_O_setSum 30 = .ok (.goto (-27), 3) := by decide +kernel
theorem d_O_setSum_33 : decode b_O_setSum 33 = .ok (.return_, 1) := by decide +kernel
theorem d_O_sum_0 : decode b_O_sum 0 = .ok (.iconst (-1), 1) := by decide +kernel
theorem d_O_sum_1 : decode b_O_sum 1 = .ok (.istore_n 3, 1) := by decide +kernel
theorem d_O_sum_2 : decode b_O_sum 2 = .ok (.iload_n 1, 1) := by decide +kernel
theorem d_O_sum_3 : decode b_O_sum 3 = .ok (.istore 4, 2) := by decide +kernel
theorem d_O_sum_5 : decode b_O_sum 5 = .ok (.iload 4, 2) := by decide +kernel
theorem d_O_sum_7 : decode b_O_sum 7 = .ok (.iload_n 2, 1) := by decide +kernel
theorem d_O_sum_8 : decode b_O_sum 8 = .ok (.if_icmp .ge 53, 3) := by decide +kernel
theorem d_O_sum_11 : decode b_O_sum 11 = .ok (.iload_n 3, 1) := by decide +kernel
theorem d_O_sum_12 : decode b_O_sum 12 = .ok (.aload_n 0, 1) := by decide +kernel
theorem d_O_sum_13 : decode b_O_sum 13 = .ok (.iload 4, 2) := by decide +kernel
theorem d_O_sum_15 : decode b_O_sum 15 = .ok (.invokevirtual 25, 3) := by decide +kernel
theorem d_O_sum_18 : decode b_O_sum 18 = .ok (.ixor, 1) := by decide +kernel
theorem d_O_sum_19 : decode b_O_sum 19 = .ok (.istore_n 3, 1) := by decide +kernel
theorem d_O_sum_20 : decode b_O_sum 20 = .ok (.iconst 0, 1) := by decide +kernel
theorem d_O_sum_21 : decode b_O_sum 21 = .ok (.istore 5, 2) := by decide +kernel
theorem d_O_sum_23 : decode b_O_sum 23 = .ok (.iload 5, 2) := by decide +kernel
theorem d_O_sum_25 : decode b_O_sum 25 = .ok (.bipush 8, 2) := by decide +kernel
theorem d_O_sum_27 : decode b_O_sum 27 = .ok (.if_icmp .ge 28, 3) := by decide +kernel
theorem d_O_sum_30 : decode b_O_sum 30 = .ok (.iload_n 3, 1) := by decide +kernel
theorem d_O_sum_31 : decode b_O_sum 31 = .ok (.iconst 1, 1) := by decide +kernel
theorem d_O_sum_32 : decode b_O_sum 32 = .ok (.iand, 1) := by decide +kernel
theorem d_O_sum_33 : decode b_O_sum 33 = .ok (.ifCond .eq 12, 3) := by decide +kernel
theorem d_O_sum_36 : decode b_O_sum 36 = .ok (.iload_n 3, 1) := by decide +kernel
theorem d_O_sum_37 : decode b_O_sum 37 = .ok (.iconst 1, 1) := by decide +kernel
theorem d_O_sum_38 : decode b_O_sum 38 = .ok (.iushr, 1) := by decide +kernel
theorem d_O_sum_39 : decode b_O_sum 39 = .ok (.ldc 35, 2) := by decide +kernel
theorem d_O_sum_41 : decode b_O_sum 41 = .ok (.ixor, 1) := by decide +kernel
theorem d_O_sum_42 : decode b_O_sum 42 = .ok (.goto 6, 3) := by decide +kernel
theorem d_O_sum_45 : decode b_O_sum 45 = .ok (.iload_n 3, 1) := by decide +kernel
theorem d_O_sum_46 : decode b_O_sum 46 = .ok (.iconst 1, 1) := by decide +kernel
theorem d_O_sum_47 : decode b_O_sum 47 = .ok (.iushr, 1) := by decide +kernel
theorem d_O_sum_48 : decode b_O_sum 48 = .ok (.istore_n 3, 1) := by decide +kernel
theorem d_O_sum_49 : decode b_O_sum 49 = .ok (.iinc 5 1, 3) := by decide +kernel
theorem d_O_sum_52 : decode b_O_sum 52 = .ok (.goto (-29), 3) := by decide +kernel
theorem d_O_sum_55 : decode b_O_sum 55 = .ok (.iinc 4 1, 3) := by decide +kernel
theorem d_O_sum_58 : decode b_O_sum 58 = .ok (.goto (-53), 3) := by decide +kernel
theorem d_O_sum_61 : decode b_O_sum 61 = .ok (.iload_n 3, 1) := by decide +kernel
theorem d_O_sum_62 : decode b_O_sum 62 = .ok (.iconst (-1), 1) := by decide +kernel
theorem d_O_sum_63 : decode b_O_sum 63 = .ok (.ixor, 1) := by decide +kernel
theorem d_O_sum_64 : decode b_O_sum 64 = .ok (.i2l, 1) := by decide +kernel
theorem d_O_sum_65 : decode b_O_sum 65 = .ok (.ldc2_w 36, 3) := by decide +kernel
theorem d_O_sum_68 : decode b_O_sum 68 = .ok (.land, 1) := by decide +kernel
theorem d_O_sum_69 : decode b_O_sum 69 = .ok (.lreturn, 1) := by decide +kernel
theorem d_R_init_0 : decode b_R_init 0 = .ok (.aload_n 0, 1) := by decide +kernel
theorem d_R_init_1 : decode b_R_init 1 = .ok (.invokespecial 1, 3) := by decide +kernel
theorem d_R_init_4 : decode b_R_init 4 = .ok (.return_, 1) := by decide +kernel
theorem d_R_isTombstone_0 : decode b_R_isTombstone 0 = .ok (.aload_n 0, 1) := by decide +kernel
theorem d_R_isTombstone_1 : decode b_R_isTombstone 1 = .ok (.getfield 7, 3) := by decide +kernel
theorem d_R_isTombstone_4 : decode b_R_isTombstone 4 = .ok (.sipush 255, 3) := by decide +kernel
theorem d_R_isTombstone_7 : decode b_R_isTombstone 7 = .ok (.if_icmp .ne 7, 3) := by decide +kernel
theorem d_R_isTombstone_10 : decode b_R_isTombstone 10 = .ok (.iconst 1, 1) := by decide +kernel
theorem d_R_isTombstone_11 : decode b_R_isTombstone 11 = .ok (.goto 4, 3) := by decide +kernel
theorem d_R_isTombstone_14 : decode b_R_isTombstone 14 = .ok (.iconst 0, 1) := by decide +kernel
theorem d_R_isTombstone_15 : decode b_R_isTombstone 15 = .ok (.ireturn, 1) := by decide +kernel
theorem d_R_keySize_0 : decode b_R_keySize 0 = .ok (.aload_n 0, 1) := by decide +kernel
theorem d_R_keySize_1 : decode b_R_keySize 1 = .ok (.getfield 15, 3) := by decide +kernel
theorem d_R_keySize_4 : decode b_R_keySize 4 = .ok (.invokestatic 19, 3) := by decide +kernel
theorem d_R_keySize_7 : decode b_R_keySize 7 = .ok (.ireturn, 1) := by decide +kernel
theorem d_R_size_0 : decode b_R_size 0 = .ok (.aload_n 0, 1) := by decide +kernel
theorem d_R_size_1 : decode b_R_size 1 = .ok (.invokevirtual 25, 3) := by decide +kernel
theorem d_R_size_4 : decode b_R_size 4 = .ok (.aload_n 0, 1) := by decide +kernel
theorem d_R_size_5 : decode b_R_size 5 = .ok (.getfield 7, 3) := by decide +kernel
theorem d_R_size_8 : decode b_R_size 8 = .ok (.invokestatic 29, 3) := by decide +kernel
theorem d_R_size_11 : decode b_R_size 11 = .ok (.ireturn, 1) := by decide +kernel
theorem d_R_fileNumber_0 : decode b_R_fileNumber 0 = .ok (.aload_n 0, 1) := by decide +kernel
theorem d_R_fileNumber_1 : decode b_R_fileNumber 1 = .ok (.getfield 33, 3) := by decide +kernel
theorem d_R_fileNumber_4 : decode b_R_fileNumber 4 = .ok (.ifnonnull 7, 3) := by decide +kernel
theorem d_R_fileNumber_7 : decode b_R_fileNumber 7 = .ok (.iconst 0, 1) := by decide +kernel
theorem d_R_fileNumber_8 : decode b_R_fileNumber 8 = .ok (.goto 10, 3) := by decide +kernel
theorem d_R_fileNumber_11 : decode b_R_fileNumber 11 = .ok (.aload_n 0, 1) := by decide +kernel
theorem d_R_fileNumber_12 : decode b_R_fileNumber 12 = .ok (.getfield 33, 3) := by decide +kernel
theorem d_R_fileNumber_15 : decode b_R_fileNumber 15 = .ok (.invokevirtual 37, 3) := by decide +kernel
theorem d_R_fileNumber_18 : decode b_R_fileNumber 18 = .ok (.ireturn, 1) := by decide +kernel
theorem d_R_isBroken_0 : decode b_R_isBroken 0 = .ok (.aload_n 0, 1) := by decide +kernel
theorem d_R_isBroken_1 : decode b_R_isBroken 1 = .ok (.getfield 33, 3) := by decide +kernel
theorem d_R_isBroken_4 : decode b_R_isBroken 4 = .ok (.ifnull 21, 3) := by decide +kernel
theorem d_R_isBroken_7 : decode b_R_isBroken 7 = .ok (.aload_n 0, 1) := by decide +kernel
theorem d_R_isBroken_8 : decode b_R_isBroken 8 = .ok (.getfield 33, 3) := by decide +kernel
theorem d_R_isBroken_11 : decode b_R_isBroken 11 = .ok (.aload_n 0, 1) := by decide +kernel
theorem d_R_isBroken_12 : decode b_R_isBroken 12 = .ok (.getfield 42, 3) := by decide +kernel
theorem d_R_isBroken_15 : decode b_R_isBroken 15 = .ok (.aload_n 0, 1) := by decide +kernel
theorem d_R_isBroken_16 : decode b_R_isBroken 16 = .ok (.invokevirtual 45, 3) := by decide +kernel
theorem d_R_isBroken_19 : decode b_R_isBroken 19 = .ok (.invokevirtual 47, 3) := by decide +kernel
theorem d_R_isBroken_22 : decode b_R_isBroken 22 = .ok (.ifCond .ne 7, 3) := by decide +kernel
theorem d_R_isBroken_25 : decode b_R_isBroken 25 = .ok (.iconst 1, 1) := by decide +kernel
theorem d_R_isBroken_26 : decode b_R_isBroken 26 = .ok (.goto 4, 3) := by decide +kernel
theorem d_R_isBroken_29 : decode b_R_isBroken 29 = .ok (.iconst 0, 1) := by decide +kernel
theorem d_R_isBroken_30 : decode b_R_isBroken 30 = .ok (.ireturn, 1) := by decide +kernel
theorem d_R_value_0 : decode b_R_value 0 = .ok (.aload_n 0, 1) := by decide +kernel
theorem d_R_value_1 : decode b_R_value 1 = .ok (.getfield 33, 3) := by decide +kernel
theorem d_R_value_4 : decode b_R_value 4 = .ok (.ifnonnull 7, 3) := by decide +kernel
theorem d_R_value_7 : decode b_R_value 7 = .ok (.lconst 0, 1) := by decide +kernel
theorem d_R_value_8 : decode b_R_value 8 = .ok (.goto 32, 3) := by decide +kernel
theorem d_R_value_11 : decode b_R_value 11 = .ok (.aload_n 0, 1) := by decide +kernel
theorem d_R_value_12 : decode b_R_value 12 = .ok (.getfield 33, 3) := by decide +kernel
theorem d_R_value_15 : decode b_R_value 15 = .ok (.invokevirtual 51, 3) := by decide +kernel
theorem d_R_value_18 : decode b_R_value 18 = .ok (.aload_n 0, 1) := by decide +kernel
theorem d_R_value_19 : decode b_R_value 19 = .ok (.getfield 42, 3) := by decide +kernel
theorem d_R_value_22 : decode b_R_value 22 = .ok (.bipush 8, 2) := by decide +kernel
theorem d_R_value_24 : decode b_R_value 24 = .ok (.iadd, 1) := by decide +kernel
theorem d_R_value_25 : decode b_R_value 25 = .ok (.aload_n 0, 1) := by decide +kernel
theorem d_R_value_26 : decode b_R_value 26 = .ok (.invokevirtual 25, 3) := by decide +kernel
theorem d_R_value_29 : decode b_R_value 29 = .ok (.iadd, 1) := by decide +kernel
theorem d_R_value_30 : decode b_R_value 30 = .ok (.aload_n 0, 1) := by decide +kernel
theorem d_R_value_31 : decode b_R_value 31 = .ok (.getfield 7, 3) := by decide +kernel
theorem d_R_value_34 : decode b_R_value 34 = .ok (.invokestatic 55, 3) := by decide +kernel
theorem d_R_value_37 : decode b_R_value 37 = .ok (.invokevirtual 59, 3) := by decide +kernel
theorem d_R_value_40 : decode b_R_value 40 = .ok (.lreturn, 1) := by decide +kernel
theorem d_R_addBytesTo_0 : decode b_R_addBytesTo 0 = .ok (.aload_n 0, 1) := by decide +kernel
theorem d_R_addBytesTo_1 : decode b_R_addBytesTo 1 = .ok (.getfield 33, 3) := by decide +kernel
theorem d_R_addBytesTo_4 : decode b_R_addBytesTo 4 = .ok (.ifnull 22, 3) := by decide +kernel
theorem d_R_addBytesTo_7 : decode b_R_addBytesTo 7 = .ok (.aload_n 1, 1) := by decide +kernel
theorem d_R_addBytesTo_8 : decode b_R_addBytesTo 8 = .ok (.aload_n 0, 1) := by decide +kernel
theorem d_R_addBytesTo_9 : decode b_R_addBytesTo 9 = .ok (.getfield 33, 3) := by decide +kernel
theorem d_R_addBytesTo_12 : decode b_R_addBytesTo 12 = .ok (.invokevirtual 51, 3) := by decide +kernel
theorem d_R_addBytesTo_15 : decode b_R_addBytesTo 15 = .ok (.aload_n 0, 1) := by decide +kernel
theorem d_R_addBytesTo_16 : decode b_R_addBytesTo 16 = .ok (.getfield 42, 3) := by decide +kernel
theorem d_R_addBytesTo_19 : decode b_R_addBytesTo 19 = .ok (.aload_n 0, 1) := by decide +kernel
theorem d_R_addBytesTo_20 : decode b_R_addBytesTo 20 = .ok (.invokevirtual 45, 3) := by decide +kernel
theorem d_R_addBytesTo_23 : decode b_R_addBytesTo 23 = .ok (.invokevirtual 64, 3) := by decide +kernel
theorem d_R_addBytesTo_26 : decode b_R_addBytesTo 26 = .ok (.return_, 1) := by decide +kernel
theorem d_S_init_0 : decode b_S_init 0 = .ok (.aload_n 0, 1) := by decide +kernel
theorem d_S_init_1 : decode b_S_init 1 = .ok (.invokespecial 3, 3) := by decide +kernel
theorem d_S_init_4 : decode b_S_init 4 = .ok (.aload_n 0, 1) := by decide +kernel
theorem d_S_init_5 : decode b_S_init 5 = .ok (.bipush 6, 2) := by decide +kernel
theorem d_S_init_7 : decode b_S_init 7 = .ok (.anewarray 9, 3) := by decide +kernel
theorem d_S_init_10 : decode b_S_init 10 = .ok (.putfield 11, 3) := by decide +kernel
theorem d_S_init_13 : decode b_S_init 13 = .ok (.iconst 0, 1) := by decide +kernel
theorem d_S_init_14 : decode b_S_init 14 = .ok (.istore_n 1, 1) := by decide +kernel
theorem d_S_init_15 : decode b_S_init 15 = .ok (.iload_n 1, 1) := by decide +kernel
theorem d_S_init_16 : decode b_S_init 16 = .ok (.aload_n 0, 1) := by decide +kernel
theorem d_S_init_17 : decode b_S_init 17 = .ok (.getfield 11, 3) := by decide +kernel
theorem d_S_init_20 : decode b_S_init 20 = .ok (.arraylength, 1) := by decide +kernel
theorem d_S_init_21 : decode b_S_init 21 = .ok (.if_icmp .ge 22, 3) := by decide +kernel
theorem d_S_init_24 : decode b_S_init 24 = .ok (.aload_n 0, 1) := by decide +kernel
theorem d_S_init_25 : decode b_S_init 25 = .ok (.getfield 11, 3) := by decide +kernel
theorem d_S_init_28 : decode b_S_init 28 = .ok (.iload_n 1, 1) := by decide +kernel
theorem d_S_init_29 : decode b_S_init 29 = .ok (.new 9, 3) := by decide +kernel
theorem d_S_init_32 : decode b_S_init 32 = .ok (.dup, 1) := by decide +kernel
theorem d_S_init_33 : decode b_S_init 33 = .ok (.invokespecial 17, 3) := by decide +kernel
theorem d_S_init_36 : decode b_S_init 36 = .ok (.aastore, 1) := by decide +kernel
theorem d_S_init_37 : decode b_S_init 37 = .ok (.iinc 1 1, 3) := by decide +kernel
theorem d_S_init_40 : decode b_S_init 40 = .ok (.goto (-25), 3) := by decide +kernel
theorem d_S_init_43 : decode b_S_init 43 = .ok (.aload_n 0, 1) := by decide +kernel
theorem d_S_init_44 : decode b_S_init 44 = .ok (.iconst 0, 1) := by decide +kernel
theorem d_S_init_45 : decode b_S_init 45 = .ok (.putfield 18, 3) := by decide +kernel
theorem d_S_init_48 : decode b_S_init 48 = .ok (.aload_n 0, 1) := by decide +kernel
theorem d_S_init_49 : decode b_S_init 49 = .ok (.aconst_null, 1) := by decide +kernel
theorem d_S_init_50 : decode b_S_init 50 = .ok (.putfield 22, 3) := by decide +kernel
theorem d_S_init_53 : decode b_S_init 53 = .ok (.aload_n 0, 1) := by decide +kernel
theorem d_S_init_54 : decode b_S_init 54 = .ok (.iconst 0, 1) := by decide +kernel
theorem d_S_init_55 : decode b_S_init 55 = .ok (.putfield 26, 3) := by decide +kernel
theorem d_S_init_58 : decode b_S_init 58 = .ok (.return_, 1) := by decide +kernel
theorem d_S_count_0 : decode b_S_count 0 = .ok (.aload_n 0, 1) := by decide +kernel
theorem d_S_count_1 : decode b_S_count 1 = .ok (.getfield 18, 3) := by decide +kernel
theorem d_S_count_4 : decode b_S_count 4 = .ok (.ireturn, 1) := by decide +kernel
theorem d_S_at_0 : decode b_S_at 0 = .ok (.iload_n 1, 1) := by decide +kernel
theorem d_S_at_1 : decode b_S_at 1 = .ok (.ifCond .lt 20, 3) := by decide +kernel
theorem d_S_at_4 : decode b_S_at 4 = .ok (.iload_n 1, 1) := by decide +kernel
theorem d_S_at_5 : decode b_S_at 5 = .ok (.aload_n 0, 1) := by decide +kernel
theorem d_S_at_6 : decode b_S_at 6 = .ok (.getfield 18, 3) := by decide +kernel
theorem d_S_at_9 : decode b_S_at 9 = .ok (.if_icmp .ge 12, 3) := by decide +kernel
theorem d_S_at_12 : decode b_S_at 12 = .ok (.aload_n 0, 1) := by decide +kernel
theorem d_S_at_13 : decode b_S_at 13 = .ok (.getfield 11, 3) := by decide +kernel
theorem d_S_at_16 : decode b_S_at 16 = .ok (.iload_n 1, 1) := by decide +kernel
theorem d_S_at_17 : decode b_S_at 17 = .ok (.aaload, 1) := by decide +kernel
theorem d_S_at_18 : decode b_S_at 18 = .ok (.goto 4, 3) := by decide +kernel
theorem d_S_at_21 : decode b_S_at 21 = .ok (.aconst_null, 1) := by decide +kernel
theorem d_S_at_22 : decode b_S_at 22 = .ok (.areturn, 1) := by decide +kernel
theorem d_S_sealedCount_0 : decode b_S_sealedCount 0 = .ok (.aload_n 0, 1) := by decide +kernel
theorem d_S_sealedCount_1 : decode b_S_sealedCount 1 = .ok (.getfield 22, 3) := by decide +kernel
theorem d_S_sealedCount_4 : decode b_S_sealedCount 4 = .ok (.ifnonnull 10, 3) := by decide +kernel
theorem d_S_sealedCount_7 : decode b_S_sealedCount 7 = .ok (.aload_n 0, 1) := by decide +kernel
theorem d_S_sealedCount_8 : decode b_S_sealedCount 8 = .ok (.getfield 18, 3) := by decide +kernel
theorem d_S_sealedCount_11 : decode b_S_sealedCount 11 = .ok (.goto 9, 3) := by decide +kernel
theorem d_S_sealedCount_14 : decode b_S_sealedCount 14 = .ok (.aload_n 0, 1) := by decide +kernel
theorem d_S_sealedCount_15 : decode b_S_sealedCount 15 = .ok (.getfield 18, 3) := by decide +kernel
theorem d_S_sealedCount_18 : decode b_S_sealedCount 18 = .ok (.iconst 1, 1) := by decide +kernel
theorem d_S_sealedCount_19 : decode b_S_sealedCount 19 = .ok (.isub, 1) := by decide +kernel
theorem d_S_sealedCount_20 : decode b_S_sealedCount 20 = .ok (.ireturn, 1) := by decide +kernel
theorem d_S_withRoomFor_0 : decode b_S_withRoomFor 0 = .ok (.aload_n 0, 1) := by decide +kernel
theorem d_S_withRoomFor_1 : decode b_S_withRoomFor 1 = .ok (.getfield 22, 3) := by decide +kernel
theorem d_S_withRoomFor_4 : decode b_S_withRoomFor 4 = .ok (.ifnull 22, 3) := by decide +kernel
theorem d_S_withRoomFor_7 : decode b_S_withRoomFor 7 = .ok (.aload_n 0, 1) := by decide +kernel
theorem d_S_withRoomFor_8 : decode b_S_withRoomFor 8 = .ok (.getfield 22, 3) := by decide +kernel
theorem d_S_withRoomFor_11 : decode b_S_withRoomFor 11 = .ok (.invokevirtual 29, 3) := by decide +kernel
theorem d_S_withRoomFor_14 : decode b_S_withRoomFor 14 = .ok (.iload_n 1, 1) := by decide +kernel
theorem d_S_withRoomFor_15 : decode b_S_withRoomFor 15 = .ok (.invokevirtual 33, 3) := by decide +kernel
theorem d_S_withRoomFor_18 : decode b_S_withRoomFor 18 = .ok (.ifCond .eq 8, 3) := by decide +kernel
theorem d_S_withRoomFor_21 : decode b_S_withRoomFor 21 = .ok (.aload_n 0, 1) := by decide +kernel
theorem d_S_withRoomFor_22 : decode b_S_withRoomFor 22 = .ok (.getfield 22, 3) := by decide +kernel
theorem d_S_withRoomFor_25 : decode b_S_withRoomFor 25 = .ok (.areturn, 1) := by decide +kernel
theorem d_S_withRoomFor_26 : decode b_S_withRoomFor 26 = .ok (.aload_n 0, 1) := by decide +kernel
theorem d_S_withRoomFor_27 : decode b_S_withRoomFor 27 = .ok (.getfield 18, 3) := by decide +kernel
theorem d_S_withRoomFor_30 : decode b_S_withRoomFor 30 = .ok (.aload_n 0, 1) := by decide +kernel
theorem d_S_withRoomFor_31 : decode b_S_withRoomFor 31 = .ok (.getfield 11, 3) := by decide +kernel
theorem d_S_withRoomFor_34 : decode b_S_withRoomFor 34 = .ok (.arraylength, 1) := by decide +kernel
theorem d_S_withRoomFor_35 : decode b_S_withRoomFor 35 = .ok (.if_icmp .ne 5, 3) := by decide +kernel
theorem d_S_withRoomFor_38 : decode b_S_withRoomFor 38 = .ok (.aconst_null, 1) := by decide +kernel
theorem d_S_withRoomFor_39 : decode b_S_withRoomFor 39 = .ok (.areturn, 1) := by decide +kernel
theorem d_S_withRoomFor_40 : decode b_S_withRoomFor 40 = .ok (.aload_n 0, 1) := by decide +kernel
theorem d_S_withRoomFor_41 : decode b_S_withRoomFor 41 = .ok (.invokevirtual 39, 3) := by decide +kernel
theorem d_S_withRoomFor_44 : decode b_S_withRoomFor 44 = .ok (.aload_n 0, 1) := by decide +kernel
theorem d_S_withRoomFor_45 : decode b_S_withRoomFor 45 = .ok (.dup, 1) := by decide +kernel
theorem d_S_withRoomFor_46 : decode b_S_withRoomFor 46 = .ok (.getfield 26, 3) := by decide +kernel
theorem d_S_withRoomFor_49 : decode b_S_withRoomFor 49 = .ok (.iconst 1, 1) := by decide +kernel
theorem d_S_withRoomFor_50 : decode b_S_withRoomFor 50 = .ok (.iadd, 1) := by decide +kernel
theorem d_S_withRoomFor_51 : decode b_S_withRoomFor 51 = .ok (.putfield 26, 3) := by decide +kernel
theorem d_S_withRoomFor_54 : decode b_S_withRoomFor 54 = .ok (.aload_n 0, 1) := by decide +kernel
theorem d_S_withRoomFor_55 : decode b_S_withRoomFor 55 = .ok (.aload_n 0, 1) := by decide +kernel
theorem d_S_withRoomFor_56 : decode b_S_withRoomFor 56 = .ok (.getfield 11, 3) := by decide +kernel
theorem d_S_withRoomFor_59 : decode b_S_withRoomFor 59 = .ok (.aload_n 0, 1) := by decide +kernel
theorem d_S_withRoomFor_60 : decode b_S_withRoomFor 60 = .ok (.getfield 18, 3) := by decide +kernel
theorem d_S_withRoomFor_63 : decode b_S_withRoomFor 63 = .ok (.aaload, 1) := by decide +kernel
theorem d_S_withRoomFor_64 : decode b_S_withRoomFor 64 = .ok (.putfield 22, 3) := by decide +kernel
theorem d_S_withRoomFor_67 : decode b_S_withRoomFor 67 = .ok (.aload_n 0, 1) := by decide +kernel
theorem d_S_withRoomFor_68 : decode b_S_withRoomFor 68 = .ok (.getfield 22, 3) := by decide +kernel
theorem d_S_withRoomFor_71 : decode b_S_withRoomFor 71 = .ok (.aload_n 0, 1) := by decide +kernel
theorem d_S_withRoomFor_72 : decode b_S_withRoomFor 72 = .ok (.getfield 26, 3) := by decide +kernel
theorem d_S_withRoomFor_75 : decode b_S_withRoomFor 75 = .ok (.invokevirtual 42, 3) := by decide +kernel
theorem d_S_withRoomFor_78 : decode b_S_withRoomFor 78 = .ok (.aload_n 0, 1) := by decide +kernel
theorem d_S_withRoomFor_79 : decode b_S_withRoomFor 79 = .ok (.dup, 1) := by decide +kernel
theorem d_S_withRoomFor_80 : decode b_S_withRoomFor 80 = .ok (.getfield 18, 3) := by decide +kernel
theorem d_S_withRoomFor_83 : decode b_S_withRoomFor 83 = .ok (.iconst 1, 1) := by decide +kernel
theorem d_S_withRoomFor_84 : decode b_S_withRoomFor 84 = .ok (.iadd, 1) := by decide +kernel
theorem d_S_withRoomFor_85 : decode b_S_withRoomFor 85 = .ok (.putfield 18, 3) := by decide +kernel
theorem d_S_withRoomFor_88 : decode b_S_withRoomFor 88 = .ok (.aload_n 0, 1) := by decide +kernel
theorem d_S_withRoomFor_89 : decode b_S_withRoomFor 89 = .ok (.getfield 22, 3) := by decide +kernel
theorem d_S_withRoomFor_92 : decode b_S_withRoomFor 92 = .ok (.areturn, 1) := by decide +kernel
theorem d_S_syncActive_0 : decode b_S_syncActive 0 = .ok (.aload_n 0, 1) := by decide +kernel
theorem d_S_syncActive_1 : decode b_S_syncActive 1 = .ok (.getfield 22, 3) := by decide +kernel
theorem d_S_syncActive_4 : decode b_S_syncActive 4 = .ok (.ifnull 10, 3) := by decide +kernel
theorem d_S_syncActive_7 : decode b_S_syncActive 7 = .ok (.aload_n 0, 1) := by decide +kernel
theorem d_S_syncActive_8 : decode b_S_syncActive 8 = .ok (.getfield 22, 3) := by decide +kernel
theorem d_S_syncActive_11 : decode b_S_syncActive 11 = .ok (.invokevirtual 46, 3) := by decide +kernel
theorem d_S_syncActive_14 : decode b_S_syncActive 14 = .ok (.return_, 1) := by decide +kernel
theorem d_S_sealActive_0 : decode b_S_sealActive 0 = .ok (.aload_n 0, 1) := by decide +kernel
theorem d_S_sealActive_1 : decode b_S_sealActive 1 = .ok (.invokevirtual 49, 3) := by decide +kernel
theorem d_S_sealActive_4 : decode b_S_sealActive 4 = .ok (.aload_n 0, 1) := by decide +kernel
theorem d_S_sealActive_5 : decode b_S_sealActive 5 = .ok (.aconst_null, 1) := by decide +kernel
theorem d_S_sealActive_6 : decode b_S_sealActive 6 = .ok (.putfield 22, 3) := by decide +kernel
theorem d_S_sealActive_9 : decode b_S_sealActive 9 = .ok (.return_, 1) := by decide +kernel
theorem d_S_losePower_0 : decode b_S_losePower 0 = .ok (.aload_n 0, 1) := by decide +kernel
theorem d_S_losePower_1 : decode b_S_losePower 1 = .ok (.getfield 22, 3) := by decide +kernel
theorem d_S_losePower_4 : decode b_S_losePower 4 = .ok (.ifnull 11, 3) := by decide +kernel
theorem d_S_losePower_7 : decode b_S_losePower 7 = .ok (.aload_n 0, 1) := by decide +kernel
theorem d_S_losePower_8 : decode b_S_losePower 8 = .ok (.getfield 22, 3) := by decide +kernel
theorem d_S_losePower_11 : decode b_S_losePower 11 = .ok (.iload_n 1, 1) := by decide +kernel
theorem d_S_losePower_12 : decode b_S_losePower 12 = .ok (.invokevirtual 52, 3) := by decide +kernel
theorem d_S_losePower_15 : decode b_S_losePower 15 = .ok (.aload_n 0, 1) := by decide +kernel
theorem d_S_losePower_16 : decode b_S_losePower 16 = .ok (.aconst_null, 1) := by decide +kernel
theorem d_S_losePower_17 : decode b_S_losePower 17 = .ok (.putfield 22, 3) := by decide +kernel
theorem d_S_losePower_20 : decode b_S_losePower 20 = .ok (.return_, 1) := by decide +kernel
theorem d_S_exchange_0 : decode b_S_exchange 0 = .ok (.iload_n 1, 1) := by decide +kernel
theorem d_S_exchange_1 : decode b_S_exchange 1 = .ok (.ifCond .lt 11, 3) := by decide +kernel
theorem d_S_exchange_4 : decode b_S_exchange 4 = .ok (.iload_n 1, 1) := by decide +kernel
theorem d_S_exchange_5 : decode b_S_exchange 5 = .ok (.aload_n 0, 1) := by decide +kernel
theorem d_S_exchange_6 : decode b_S_exchange 6 = .ok (.getfield 18, 3) := by decide +kernel
theorem d_S_exchange_9 : decode b_S_exchange 9 = .ok (.if_icmp .lt 5, 3) := by decide +kernel
theorem d_S_exchange_12 : decode b_S_exchange 12 = .ok (.aload_n 2, 1) := by decide +kernel
theorem d_S_exchange_13 : decode b_S_exchange 13 = .ok (.areturn, 1) := by decide +kernel
theorem d_S_exchange_14 : decode b_S_exchange 14 = .ok (.aload_n 0, 1) := by decide +kernel
theorem d_S_exchange_15 : decode b_S_exchange 15 = .ok (.getfield 11, 3) := by decide +kernel
theorem d_S_exchange_18 : decode b_S_exchange 18 = .ok (.iload_n 1, 1) := by decide +kernel
theorem d_S_exchange_19 : decode b_S_exchange 19 = .ok (.aaload, 1) := by decide +kernel
theorem d_S_exchange_20 : decode b_S_exchange 20 = .ok (.astore_n 3, 1) := by decide +kernel
theorem d_S_exchange_21 : decode b_S_exchange 21 = .ok (.aload_n 0, 1) := by decide +kernel
theorem d_S_exchange_22 : decode b_S_exchange 22 = .ok (.getfield 11, 3) := by decide +kernel
theorem d_S_exchange_25 : decode b_S_exchange 25 = .ok (.iload_n 1, 1) := by decide +kernel
theorem d_S_exchange_26 : decode b_S_exchange 26 = .ok (.aload_n 2, 1) := by decide +kernel
theorem d_S_exchange_27 : decode b_S_exchange 27 = .ok (.aastore, 1) := by decide +kernel
theorem d_S_exchange_28 : decode b_S_exchange 28 = .ok (.aload_n 3, 1) := by decide +kernel
theorem d_S_exchange_29 : decode b_S_exchange 29 = .ok (.areturn, 1) := by decide +kernel
theorem d_S_takeOut_0 : decode b_S_takeOut 0 = .ok (.iload_n 1, 1) := by decide +kernel
theorem d_S_takeOut_1 : decode b_S_takeOut 1 = .ok (.ifCond .lt 11, 3) := by decide +kernel
theorem d_S_takeOut_4 : decode b_S_takeOut 4 = .ok (.iload_n 1, 1) := by decide +kernel
theorem d_S_takeOut_5 : decode b_S_takeOut 5 = .ok (.aload_n 0, 1) := by decide +kernel
theorem d_S_takeOut_6 : decode b_S_takeOut 6 = .ok (.getfield 18, 3) := by decide +kernel
theorem d_S_takeOut_9 : decode b_S_takeOut 9 = .ok (.if_icmp .lt 4, 3) := by decide +kernel
theorem d_S_takeOut_12 : decode b_S_takeOut 12 = .ok (.return_, 1) := by decide +kernel
theorem d_S_takeOut_13 : decode b_S_takeOut 13 = .ok (.aload_n 0, 1) := by decide +kernel
theorem d_S_takeOut_14 : decode b_S_takeOut 14 = .ok (.getfield 11, 3) := by decide +kernel
theorem d_S_takeOut_17 : decode b_S_takeOut 17 = .ok (.iload_n 1, 1) := by decide +kernel
theorem d_S_takeOut_18 : decode b_S_takeOut 18 = .ok (.aaload, 1) := by decide +kernel
theorem d_S_takeOut_19 : decode b_S_takeOut 19 = .ok (.astore_n 2, 1) := by decide +kernel
theorem d_S_takeOut_20 : decode b_S_takeOut 20 = .ok (.iload_n 1, 1) := by decide +kernel
theorem d_S_takeOut_21 : decode b_S_takeOut 21 = .ok (.istore_n 3, 1) := by decide +kernel
theorem d_S_takeOut_22 : decode b_S_takeOut 22 = .ok (.iload_n 3, 1) := by decide +kernel
theorem d_S_takeOut_23 : decode b_S_takeOut 23 = .ok (.aload_n 0, 1) := by decide +kernel
theorem d_S_takeOut_24 : decode b_S_takeOut 24 = .ok (.getfield 11, 3) := by decide +kernel
theorem d_S_takeOut_27 : decode b_S_takeOut 27 = .ok (.arraylength, 1) := by decide +kernel
theorem d_S_takeOut_28 : decode b_S_takeOut 28 = .ok (.iconst 1, 1) := by decide +kernel
theorem d_S_takeOut_29 : decode b_S_takeOut 29 = .ok (.isub, 1) := by decide +kernel
theorem d_S_takeOut_30 : decode b_S_takeOut 30 = .ok (.if_icmp .ge 23, 3) := by decide +kernel
theorem d_S_takeOut_33 : decode b_S_takeOut 33 = .ok (.aload_n 0, 1) := by decide +kernel
theorem d_S_takeOut_34 : decode b_S_takeOut 34 = .ok (.getfield 11, 3) := by decide +kernel
theorem d_S_takeOut_37 : decode b_S_takeOut 37 = .ok (.iload_n 3, 1) := by decide +kernel
theorem d_S_takeOut_38 : decode b_S_takeOut 38 = .ok (.aload_n 0, 1) := by decide +kernel
theorem d_S_takeOut_39 : decode b_S_takeOut 39 = .ok (.getfield 11, 3) := by decide +kernel
theorem d_S_takeOut_42 : decode b_S_takeOut 42 = .ok (.iload_n 3, 1) := by decide +kernel
theorem d_S_takeOut_43 : decode b_S_takeOut 43 = .ok (.iconst 1, 1) := by decide +kernel
theorem d_S_takeOut_44 : decode b_S_takeOut 44 = .ok (.iadd, 1) := by decide +kernel
theorem d_S_takeOut_45 : decode b_S_takeOut 45 = .ok (.aaload, 1) := by decide +kernel
theorem d_S_takeOut_46 : decode b_S_takeOut 46 = .ok (.aastore, 1) := by decide +kernel
theorem d_S_takeOut_47 : decode b_S_takeOut 47 = .ok (.iinc 3 1, 3) := by decide +kernel
theorem d_S_takeOut_50 : decode b_S_takeOut 50 = .ok (.goto (-28), 3) := by decide +kernel
theorem d_S_takeOut_53 : decode b_S_takeOut 53 = .ok (.aload_n 0, 1) := by decide +kernel
theorem d_S_takeOut_54 : decode b_S_takeOut 54 = .ok (.getfield 11, 3) := by decide +kernel
theorem d_S_takeOut_57 : decode b_S_takeOut 57 = .ok (.aload_n 0, 1) := by decide +kernel
theorem d_S_takeOut_58 : decode b_S_takeOut 58 = .ok (.getfield 11, 3) := by decide +kernel
theorem d_S_takeOut_61 : decode b_S_takeOut 61 = .ok (.arraylength, 1) := by decide +kernel
theorem d_S_takeOut_62 : decode b_S_takeOut 62 = .ok (.iconst 1, 1) := by decide +kernel
theorem d_S_takeOut_63 : decode b_S_takeOut 63 = .ok (.isub, 1) := by decide +kernel
theorem d_S_takeOut_64 : decode b_S_takeOut 64 = .ok (.aload_n 2, 1) := by decide +kernel
theorem d_S_takeOut_65 : decode b_S_takeOut 65 = .ok (.aastore, 1) := by decide +kernel
theorem d_S_takeOut_66 : decode b_S_takeOut 66 = .ok (.aload_n 0, 1) := by decide +kernel
theorem d_S_takeOut_67 : decode b_S_takeOut 67 = .ok (.dup, 1) := by decide +kernel
theorem d_S_takeOut_68 : decode b_S_takeOut 68 = .ok (.getfield 18, 3) := by decide +kernel
theorem d_S_takeOut_71 : decode b_S_takeOut 71 = .ok (.iconst 1, 1) := by decide +kernel
theorem d_S_takeOut_72 : decode b_S_takeOut 72 = .ok (.isub, 1) := by decide +kernel
theorem d_S_takeOut_73 : decode b_S_takeOut 73 = .ok (.putfield 18, 3) := by decide +kernel
theorem d_S_takeOut_76 : decode b_S_takeOut 76 = .ok (.return_, 1) := by decide +kernel
theorem d_F_init_0 : decode b_F_init 0 = .ok (.aload_n 0, 1) := by decide +kernel
theorem d_F_init_1 : decode b_F_init 1 = .ok (.invokespecial 1, 3) := by decide +kernel
theorem d_F_init_4 : decode b_F_init 4 = .ok (.aload_n 0, 1) := by decide +kernel
theorem d_F_init_5 : decode b_F_init 5 = .ok (.new 7, 3) := by decide +kernel
theorem d_F_init_8 : decode b_F_init 8 = .ok (.dup, 1) := by decide +kernel
theorem d_F_init_9 : decode b_F_init 9 = .ok (.bipush 100, 2) := by decide +kernel
theorem d_F_init_11 : decode b_F_init 11 = .ok (.invokespecial 11, 3) := by decide +kernel
theorem d_F_init_14 : decode b_F_init 14 = .ok (.putfield 14, 3) := by decide +kernel
theorem d_F_init_17 : decode b_F_init 17 = .ok (.aload_n 0, 1) := by decide +kernel
theorem d_F_init_18 : decode b_F_init 18 = .ok (.new 7, 3) := by decide +kernel
theorem d_F_init_21 : decode b_F_init 21 = .ok (.dup, 1) := by decide +kernel
theorem d_F_init_22 : decode b_F_init 22 = .ok (.bipush 104, 2) := by decide +kernel
theorem d_F_init_24 : decode b_F_init 24 = .ok (.invokespecial 11, 3) := by decide +kernel
theorem d_F_init_27 : decode b_F_init 27 = .ok (.putfield 20, 3) := by decide +kernel
theorem d_F_init_30 : decode b_F_init 30 = .ok (.aload_n 0, 1) := by decide +kernel
theorem d_F_init_31 : decode b_F_init 31 = .ok (.bipush 11, 2) := by decide +kernel
theorem d_F_init_33 : decode b_F_init 33 = .ok (.anewarray 23, 3) := by decide +kernel
theorem d_F_init_36 : decode b_F_init 36 = .ok (.putfield 25, 3) := by decide +kernel
theorem d_F_init_39 : decode b_F_init 39 = .ok (.iconst 0, 1) := by decide +kernel
theorem d_F_init_40 : decode b_F_init 40 = .ok (.istore_n 1, 1) := by decide +kernel
theorem d_F_init_41 : decode b_F_init 41 = .ok (.iload_n 1, 1) := by decide +kernel
theorem d_F_init_42 : decode b_F_init 42 = .ok (.aload_n 0, 1) := by decide +kernel
theorem d_F_init_43 : decode b_F_init 43 = .ok (.getfield 25, 3) := by decide +kernel
theorem d_F_init_46 : decode b_F_init 46 = .ok (.arraylength, 1) := by decide +kernel
theorem d_F_init_47 : decode b_F_init 47 = .ok (.if_icmp .ge 22, 3) := by decide +kernel
theorem d_F_init_50 : decode b_F_init 50 = .ok (.aload_n 0, 1) := by decide +kernel
theorem d_F_init_51 : decode b_F_init 51 = .ok (.getfield 25, 3) := by decide +kernel
theorem d_F_init_54 : decode b_F_init 54 = .ok (.iload_n 1, 1) := by decide +kernel
theorem d_F_init_55 : decode b_F_init 55 = .ok (.new 23, 3) := by decide +kernel
theorem d_F_init_58 : decode b_F_init 58 = .ok (.dup, 1) := by decide +kernel
theorem d_F_init_59 : decode b_F_init 59 = .ok (.invokespecial 29, 3) := by decide +kernel
theorem d_F_init_62 : decode b_F_init 62 = .ok (.aastore, 1) := by decide +kernel
theorem d_F_init_63 : decode b_F_init 63 = .ok (.iinc 1 1, 3) := by decide +kernel
theorem d_F_init_66 : decode b_F_init 66 = .ok (.goto (-25), 3) := by decide +kernel
theorem d_F_init_69 : decode b_F_init 69 = .ok (.return_, 1) := by decide +kernel
theorem d_F_begin_0 : decode b_F_begin 0 = .ok (.aload_n 0, 1) := by decide +kernel
theorem d_F_begin_1 : decode b_F_begin 1 = .ok (.getfield 14, 3) := by decide +kernel
theorem d_F_begin_4 : decode b_F_begin 4 = .ok (.iconst 0, 1) := by decide +kernel
theorem d_F_begin_5 : decode b_F_begin 5 = .ok (.invokevirtual 30, 3) := by decide +kernel
theorem d_F_begin_8 : decode b_F_begin 8 = .ok (.aload_n 0, 1) := by decide +kernel
theorem d_F_begin_9 : decode b_F_begin 9 = .ok (.getfield 20, 3) := by decide +kernel
theorem d_F_begin_12 : decode b_F_begin 12 = .ok (.iconst 0, 1) := by decide +kernel
theorem d_F_begin_13 : decode b_F_begin 13 = .ok (.invokevirtual 30, 3) := by decide +kernel
theorem d_F_begin_16 : decode b_F_begin 16 = .ok (.aload_n 0, 1) := by decide +kernel
theorem d_F_begin_17 : decode b_F_begin 17 = .ok (.iconst 0, 1) := by decide +kernel
theorem d_F_begin_18 : decode b_F_begin 18 = .ok (.putfield 33, 3) := by decide +kernel
theorem d_F_begin_21 : decode b_F_begin 21 = .ok (.aload_n 0, 1) := by decide +kernel
theorem d_F_begin_22 : decode b_F_begin 22 = .ok (.iload_n 1, 1) := by decide +kernel
theorem d_F_begin_23 : decode b_F_begin 23 = .ok (.putfield 37, 3) := by decide +kernel
theorem d_F_begin_26 : decode b_F_begin 26 = .ok (.aload_n 0, 1) := by decide +kernel
theorem d_F_begin_27 : decode b_F_begin 27 = .ok (.iconst 0, 1) := by decide +kernel
theorem d_F_begin_28 : decode b_F_begin 28 = .ok (.putfield 40, 3) := by decide +kernel
theorem d_F_begin_31 : decode b_F_begin 31 = .ok (.return_, 1) := by decide +kernel
theorem d_F_number_0 : decode b_F_number 0 = .ok (.aload_n 0, 1) := by decide +kernel
theorem d_F_number_1 : decode b_F_number 1 = .ok (.getfield 37, 3) := by decide +kernel
theorem d_F_number_4 : decode b_F_number 4 = .ok (.ireturn, 1) := by decide +kernel
theorem d_F_synced_0 : decode b_F_synced 0 = .ok (.aload_n 0, 1) := by decide +kernel
theorem d_F_synced_1 : decode b_F_synced 1 = .ok (.getfield 40, 3) := by decide +kernel
theorem d_F_synced_4 : decode b_F_synced 4 = .ok (.ireturn, 1) := by decide +kernel
theorem d_F_bytes_0 : decode b_F_bytes 0 = .ok (.aload_n 0, 1) := by decide +kernel
theorem d_F_bytes_1 : decode b_F_bytes 1 = .ok (.getfield 14, 3) := by decide +kernel
theorem d_F_bytes_4 : decode b_F_bytes 4 = .ok (.areturn, 1) := by decide +kernel
theorem d_F_hint_0 : decode b_F_hint 0 = .ok (.aload_n 0, 1) := by decide +kernel
theorem d_F_hint_1 : decode b_F_hint 1 = .ok (.getfield 20, 3) := by decide +kernel
theorem d_F_hint_4 : decode b_F_hint 4 = .ok (.areturn, 1) := by decide +kernel
theorem d_F_recordCount_0 : decode b_F_recordCount 0 = .ok (.aload_n 0, 1) := by decide +kernel
theorem d_F_recordCount_1 : decode b_F_recordCount 1 = .ok (.getfield 33, 3) := by decide +kernel
theorem d_F_recordCount_4 : decode b_F_recordCount 4 = .ok (.ireturn, 1) := by decide +kernel
theorem d_F_record_0 : decode b_F_record 0 = .ok (.iload_n 1, 1) := by decide +kernel
theorem d_F_record_1 : decode b_F_record 1 = .ok (.ifCond .lt 20, 3) := by decide +kernel
theorem d_F_record_4 : decode b_F_record 4 = .ok (.iload_n 1, 1) := by decide +kernel
theorem d_F_record_5 : decode b_F_record 5 = .ok (.aload_n 0, 1) := by decide +kernel
theorem d_F_record_6 : decode b_F_record 6 = .ok (.getfield 33, 3) := by decide +kernel
theorem d_F_record_9 : decode b_F_record 9 = .ok (.if_icmp .ge 12, 3) := by decide +kernel
theorem d_F_record_12 : decode b_F_record 12 = .ok (.aload_n 0, 1) := by decide +kernel
theorem d_F_record_13 : decode b_F_record 13 = .ok (.getfield 25, 3) := by decide +kernel
theorem d_F_record_16 : decode b_F_record 16 = .ok (.iload_n 1, 1) := by decide +kernel
theorem d_F_record_17 : decode b_F_record 17 = .ok (.aaload, 1) := by decide +kernel
theorem d_F_record_18 : decode b_F_record 18 = .ok (.goto 4, 3) := by decide +kernel
theorem d_F_record_21 : decode b_F_record 21 = .ok (.aconst_null, 1) := by decide +kernel
theorem d_F_record_22 : decode b_F_record 22 = .ok (.areturn, 1) := by decide +kernel
theorem d_F_syncAll_0 : decode b_F_syncAll 0 = .ok (.aload_n 0, 1) := by decide +kernel
theorem d_F_syncAll_1 : decode b_F_syncAll 1 = .ok (.aload_n 0, 1) := by decide +kernel
theorem d_F_syncAll_2 : decode b_F_syncAll 2 = .ok (.getfield 14, 3) := by decide +kernel
theorem d_F_syncAll_5 : decode b_F_syncAll 5 = .ok (.invokevirtual 43, 3) := by decide +kernel
theorem d_F_syncAll_8 : decode b_F_syncAll 8 = .ok (.putfield 40, 3) := by decide +kernel
theorem d_F_syncAll_11 : decode b_F_syncAll 11 = .ok (.return_, 1) := by decide +kernel
theorem d_F_losePower_0 : decode b_F_losePower 0 = .ok (.aload_n 0, 1) := by decide +kernel
theorem d_F_losePower_1 : decode b_F_losePower 1 = .ok (.getfield 14, 3) := by decide +kernel
theorem d_F_losePower_4 : decode b_F_losePower 4 = .ok (.aload_n 0, 1) := by decide +kernel
theorem d_F_losePower_5 : decode b_F_losePower 5 = .ok (.getfield 40, 3) := by decide +kernel
theorem d_F_losePower_8 : decode b_F_losePower 8 = .ok (.iload_n 1, 1) := by decide +kernel
theorem d_F_losePower_9 : decode b_F_losePower 9 = .ok (.iadd, 1) := by decide +kernel
theorem d_F_losePower_10 : decode b_F_losePower 10 = .ok (.invokevirtual 30, 3) := by decide +kernel
theorem d_F_losePower_13 : decode b_F_losePower 13 = .ok (.aload_n 0, 1) := by decide +kernel
theorem d_F_losePower_14 : decode b_F_losePower 14 = .ok (.invokevirtual 47, 3) := by decide +kernel
theorem d_F_losePower_17 : decode b_F_losePower 17 = .ok (.return_, 1) := by decide +kernel
theorem d_F_liveBytes_0 : decode b_F_liveBytes 0 = .ok (.iconst 0, 1) := by decide +kernel
theorem d_F_liveBytes_1 : decode b_F_liveBytes 1 = .ok (.istore_n 2, 1) := by decide +kernel
theorem d_F_liveBytes_2 : decode b_F_liveBytes 2 = .ok (.iconst 0, 1) := by decide +kernel
theorem d_F_liveBytes_3 : decode b_F_liveBytes 3 = .ok (.istore_n 3, 1) := by decide +kernel
theorem d_F_liveBytes_4 : decode b_F_liveBytes 4 = .ok (.iload_n 3, 1) := by decide +kernel
theorem d_F_liveBytes_5 : decode b_F_liveBytes 5 = .ok (.aload_n 0, 1) := by decide +kernel
theorem d_F_liveBytes_6 : decode b_F_liveBytes 6 = .ok (.getfield 33, 3) := by decide +kernel
theorem d_F_liveBytes_9 : decode b_F_liveBytes 9 = .ok (.if_icmp .ge 34, 3) := by decide +kernel
theorem d_F_liveBytes_12 : decode b_F_liveBytes 12 = .ok (.aload_n 1, 1) := by decide +kernel
theorem d_F_liveBytes_13 : decode b_F_liveBytes 13 = .ok (.aload_n 0, 1) := by decide +kernel
theorem d_F_liveBytes_14 : decode b_F_liveBytes 14 = .ok (.getfield 25, 3) := by decide +kernel
theorem d_F_liveBytes_17 : decode b_F_liveBytes 17 = .ok (.iload_n 3, 1) := by decide +kernel
theorem d_F_liveBytes_18 : decode b_F_liveBytes 18 = .ok (.aaload, 1) := by decide +kernel
theorem d_F_liveBytes_19 : decode b_F_liveBytes 19 = .ok (.invokevirtual 50, 3) := by decide +kernel
theorem d_F_liveBytes_22 : decode b_F_liveBytes 22 = .ok (.ifCond .eq 15, 3) := by decide +kernel
theorem d_F_liveBytes_25 : decode b_F_liveBytes 25 = .ok (.iload_n 2, 1) := by decide +kernel
theorem d_F_liveBytes_26 : decode b_F_liveBytes 26 = .ok (.aload_n 0, 1) := by decide +kernel
theorem d_F_liveBytes_27 : decode b_F_liveBytes 27 = .ok (.getfield 25, 3) := by decide +kernel
theorem d_F_liveBytes_30 : decode b_F_liveBytes 30 = .ok (.iload_n 3, 1) := by decide +kernel
theorem d_F_liveBytes_31 : decode b_F_liveBytes 31 = .ok (.aaload, 1) := by decide +kernel
theorem d_F_liveBytes_32 : decode b_F_liveBytes 32 = .ok (.invokevirtual 56, 3) := by decide +kernel
theorem d_F_liveBytes_35 : decode b_F_liveBytes 35 = .ok (.iadd, 1) := by decide +kernel
theorem d_F_liveBytes_36 : decode b_F_liveBytes 36 = .ok (.istore_n 2, 1) := by decide +kernel
theorem d_F_liveBytes_37 : decode b_F_liveBytes 37 = .ok (.iinc 3 1, 3) := by decide +kernel
theorem d_F_liveBytes_40 : decode b_F_liveBytes 40 = .ok (.goto (-36), 3) := by decide +kernel
theorem d_F_liveBytes_43 : decode b_F_liveBytes 43 = .ok (.iload_n 2, 1) := by decide +kernel
theorem d_F_liveBytes_44 : decode b_F_liveBytes 44 = .ok (.ireturn, 1) := by decide +kernel
theorem d_F_append_0 : decode b_F_append 0 = .ok (.aload_n 0, 1) := by decide +kernel
theorem d_F_append_1 : decode b_F_append 1 = .ok (.getfield 14, 3) := by decide +kernel
theorem d_F_append_4 : decode b_F_append 4 = .ok (.invokevirtual 43, 3) := by decide +kernel
theorem d_F_append_7 : decode b_F_append 7 = .ok (.istore 7, 2) := by decide +kernel
theorem d_F_append_9 : decode b_F_append 9 = .ok (.lload_n 2, 1) := by decide +kernel
theorem d_F_append_10 : decode b_F_append 10 = .ok (.invokestatic 57, 3) := by decide +kernel
theorem d_F_append_13 : decode b_F_append 13 = .ok (.istore 8, 2) := by decide +kernel
theorem d_F_append_15 : decode b_F_append 15 = .ok (.aload_n 0, 1) := by decide +kernel
theorem d_F_append_16 : decode b_F_append 16 = .ok (.getfield 14, 3) := by decide +kernel
theorem d_F_append_19 : decode b_F_append 19 = .ok (.lconst 0, 1) := by decide +kernel
theorem d_F_append_20 : decode b_F_append 20 = .ok (.iconst 4, 1) := by decide +kernel
theorem d_F_append_21 : decode b_F_append 21 = .ok (.invokevirtual 62, 3) := by decide +kernel
theorem d_F_append_24 : decode b_F_append 24 = .ok (.aload_n 0, 1) := by decide +kernel
theorem d_F_append_25 : decode b_F_append 25 = .ok (.getfield 14, 3) := by decide +kernel
theorem d_F_append_28 : decode b_F_append 28 = .ok (.iload_n 1, 1) := by decide +kernel
theorem d_F_append_29 : decode b_F_append 29 = .ok (.i2l, 1) := by decide +kernel
theorem d_F_append_30 : decode b_F_append 30 = .ok (.iconst 2, 1) := by decide +kernel
theorem d_F_append_31 : decode b_F_append 31 = .ok (.invokevirtual 62, 3) := by decide +kernel
theorem d_F_append_34 : decode b_F_append 34 = .ok (.aload_n 0, 1) := by decide +kernel
theorem d_F_append_35 : decode b_F_append 35 = .ok (.getfield 14, 3) := by decide +kernel
theorem d_F_append_38 : decode b_F_append 38 = .ok (.iload 8, 2) := by decide +kernel
theorem d_F_append_40 : decode b_F_append 40 = .ok (.invokevirtual 66, 3) := by decide +kernel
theorem d_F_append_43 : decode b_F_append 43 = .ok (.aload_n 0, 1) := by decide +kernel
theorem d_F_append_44 : decode b_F_append 44 = .ok (.getfield 14, 3) := by decide +kernel
theorem d_F_append_47 : decode b_F_append 47 = .ok (.iload 6, 2) := by decide +kernel
theorem d_F_append_49 : decode b_F_append 49 = .ok (.invokevirtual 66, 3) := by decide +kernel
theorem d_F_append_52 : decode b_F_append 52 = .ok (.aload_n 0, 1) := by decide +kernel
theorem d_F_append_53 : decode b_F_append 53 = .ok (.getfield 14, 3) := by decide +kernel
theorem d_F_append_56 : decode b_F_append 56 = .ok (.lload_n 2, 1) := by decide +kernel
theorem d_F_append_57 : decode b_F_append 57 = .ok (.invokestatic 69, 3) := by decide +kernel
theorem d_F_append_60 : decode b_F_append 60 = .ok (.iload 8, 2) := by decide +kernel
theorem d_F_append_62 : decode b_F_append 62 = .ok (.invokevirtual 62, 3) := by decide +kernel
theorem d_F_append_65 : decode b_F_append 65 = .ok (.aload_n 0, 1) := by decide +kernel
theorem d_F_append_66 : decode b_F_append 66 = .ok (.getfield 14, 3) := by decide +kernel
theorem d_F_append_69 : decode b_F_append 69 = .ok (.lload 4, 2) := by decide +kernel
theorem d_F_append_71 : decode b_F_append 71 = .ok (.iload 6, 2) := by decide +kernel
theorem d_F_append_73 : decode b_F_append 73 = .ok (.invokestatic 72, 3) := by decide +kernel
theorem d_F_append_76 : decode b_F_append 76 = .ok (.invokevirtual 62, 3) := by decide +kernel
theorem d_F_append_79 : decode b_F_append 79 = .ok (.aload_n 0, 1) := by decide +kernel
theorem d_F_append_80 : decode b_F_append 80 = .ok (.getfield 14, 3) := by decide +kernel
theorem d_F_append_83 : decode b_F_append 83 = .ok (.iload 7, 2) := by decide +kernel
theorem d_F_append_85 : decode b_F_append 85 = .ok (.aload_n 0, 1) := by decide +kernel
theorem d_F_append_86 : decode b_F_append 86 = .ok (.getfield 14, 3) := by decide +kernel
theorem d_F_append_89 : decode b_F_append 89 = .ok (.iload 7, 2) := by decide +kernel
theorem d_F_append_91 : decode b_F_append 91 = .ok (.iconst 4, 1) := by decide +kernel
theorem d_F_append_92 : decode b_F_append 92 = .ok (.iadd, 1) := by decide +kernel
theorem d_F_append_93 : decode b_F_append 93 = .ok (.aload_n 0, 1) := by decide +kernel
theorem d_F_append_94 : decode b_F_append 94 = .ok (.getfield 14, 3) := by decide +kernel
theorem d_F_append_97 : decode b_F_append 97 = .ok (.invokevirtual 43, 3) := by decide +kernel
theorem d_F_append_100 : decode b_F_append 100 = .ok (.invokevirtual 76, 3) := by decide +kernel
theorem d_F_append_103 : decode b_F_append 103 = .ok (.invokevirtual 80, 3) := by decide +kernel
theorem d_F_append_106 : decode b_F_append 106 = .ok (.aload_n 0, 1) := by decide +kernel
theorem d_F_append_107 : decode b_F_append 107 = .ok (.iload 7, 2) := by decide +kernel
theorem d_F_append_109 : decode b_F_append 109 = .ok (.lload_n 2, 1) := by decide +kernel
theorem d_F_append_110 : decode b_F_append 110 = .ok (.iload 6, 2) := by decide +kernel
theorem d_F_append_112 : decode b_F_append 112 = .ok (.aconst_null, 1) := by decide +kernel
theorem d_F_append_113 : decode b_F_append 113 = .ok (.invokevirtual 84, 3) := by decide +kernel
theorem d_F_append_116 : decode b_F_append 116 = .ok (.areturn, 1) := by decide +kernel
theorem d_F_appendCopy_0 : decode b_F_appendCopy 0 = .ok (.aload_n 0, 1) := by decide +kernel
theorem d_F_appendCopy_1 : decode b_F_appendCopy 1 = .ok (.getfield 14, 3) := by decide +kernel
theorem d_F_appendCopy_4 : decode b_F_appendCopy 4 = .ok (.invokevirtual 43, 3) := by decide +kernel
theorem d_F_appendCopy_7 : decode b_F_appendCopy 7 = .ok (.istore_n 2, 1) := by decide +kernel
theorem d_F_appendCopy_8 : decode b_F_appendCopy 8 = .ok (.aload_n 1, 1) := by decide +kernel
theorem d_F_appendCopy_9 : decode b_F_appendCopy 9 = .ok (.aload_n 0, 1) := by decide +kernel
theorem d_F_appendCopy_10 : decode b_F_appendCopy 10 = .ok (.getfield 14, 3) := by decide +kernel
theorem d_F_appendCopy_13 : decode b_F_appendCopy 13 = .ok (.invokevirtual 88, 3) := by decide +kernel
theorem d_F_appendCopy_16 : decode b_F_appendCopy 16 = .ok (.aload_n 0, 1) := by decide +kernel
theorem d_F_appendCopy_17 : decode b_F_appendCopy 17 = .ok (.iload_n 2, 1) := by decide +kernel
theorem d_F_appendCopy_18 : decode b_F_appendCopy 18 = .ok (.aload_n 1, 1) := by decide +kernel
theorem d_F_appendCopy_19 : decode b_F_appendCopy 19 = .ok (.getfield 92, 3) := by decide +kernel
theorem d_F_appendCopy_22 : decode b_F_appendCopy 22 = .ok (.aload_n 1, 1) := by decide +kernel
theorem d_F_appendCopy_23 : decode b_F_appendCopy 23 = .ok (.getfield 96, 3) := by decide +kernel
theorem d_F_appendCopy_26 : decode b_F_appendCopy 26 = .ok (.aload_n 1, 1) := by decide +kernel
theorem d_F_appendCopy_27 : decode b_F_appendCopy 27 = .ok (.invokevirtual 84, 3) := by decide +kernel
theorem d_F_appendCopy_30 : decode b_F_appendCopy 30 = .ok (.pop, 1) := by decide +kernel
theorem d_F_appendCopy_31 : decode b_F_appendCopy 31 = .ok (.return_, 1) := by decide +kernel
theorem d_F_hasRightSum_0 : decode b_F_hasRightSum 0 = .ok (.aload_n 0, 1) := by decide +kernel
theorem d_F_hasRightSum_1 : decode b_F_hasRightSum 1 = .ok (.getfield 14, 3) := by decide +kernel
theorem d_F_hasRightSum_4 : decode b_F_hasRightSum 4 = .ok (.iload_n 1, 1) := by decide +kernel
theorem d_F_hasRightSum_5 : decode b_F_hasRightSum 5 = .ok (.iconst 4, 1) := by decide +kernel
theorem d_F_hasRightSum_6 : decode b_F_hasRightSum 6 = .ok (.invokevirtual 99, 3) := by decide +kernel
theorem d_F_hasRightSum_9 : decode b_F_hasRightSum 9 = .ok (.aload_n 0, 1) := by decide +kernel
theorem d_F_hasRightSum_10 : decode b_F_hasRightSum 10 = .ok (.getfield 14, 3) := by decide +kernel
theorem d_F_hasRightSum_13 : decode b_F_hasRightSum 13 = .ok (.iload_n 1, 1) := by decide +kernel
theorem d_F_hasRightSum_14 : decode b_F_hasRightSum 14 = .ok (.iconst 4, 1) := by decide +kernel
theorem d_F_hasRightSum_15 : decode b_F_hasRightSum 15 = .ok (.iadd, 1) := by decide +kernel
theorem d_F_hasRightSum_16 : decode b_F_hasRightSum 16 = .ok (.iload_n 1, 1) := by decide +kernel
theorem d_F_hasRightSum_17 : decode b_F_hasRightSum 17 = .ok (.iload_n 2, 1) := by decide +kernel
theorem d_F_hasRightSum_18 : decode b_F_hasRightSum 18 = .ok (.iadd, 1) := by decide +kernel
theorem d_F_hasRightSum_19 : decode b_F_hasRightSum 19 = .ok (.invokevirtual 76, 3) := by decide +kernel
theorem d_F_hasRightSum_22 : decode b_F_hasRightSum 22 = .ok (.lcmp, 1) := by decide +kernel
theorem d_F_hasRightSum_23 : decode b_F_hasRightSum 23 = .ok (.ifCond .ne 7, 3) := by decide +kernel
theorem d_F_hasRightSum_26 : decode b_F_hasRightSum 26 = .ok (.iconst 1, 1) := by decide +kernel
theorem d_F_hasRightSum_27 : decode b_F_hasRightSum 27 = .ok (.goto 4, 3) := by decide +kernel
theorem d_F_hasRightSum_30 : decode b_F_hasRightSum 30 = .ok (.iconst 0, 1) := by decide +kernel
theorem d_F_hasRightSum_31 : decode b_F_hasRightSum 31 = .ok (.ireturn, 1) := by decide +kernel
theorem d_F_publishAs_0 : decode b_F_publishAs 0 = .ok (.aload_n 0, 1) := by decide +kernel
theorem d_F_publishAs_1 : decode b_F_publishAs 1 = .ok (.iload_n 1, 1) := by decide +kernel
theorem d_F_publishAs_2 : decode b_F_publishAs 2 = .ok (.putfield 37, 3) := by decide +kernel
theorem d_F_publishAs_5 : decode b_F_publishAs 5 = .ok (.aload_n 0, 1) := by decide +kernel
theorem d_F_publishAs_6 : decode b_F_publishAs 6 = .ok (.invokevirtual 47, 3) := by decide +kernel
theorem d_F_publishAs_9 : decode b_F_publishAs 9 = .ok (.iconst 0, 1) := by decide +kernel
theorem d_F_publishAs_10 : decode b_F_publishAs 10 = .ok (.istore_n 2, 1) := by decide +kernel
theorem d_F_publishAs_11 : decode b_F_publishAs 11 = .ok (.iload_n 2, 1) := by decide +kernel
theorem d_F_publishAs_12 : decode b_F_publishAs 12 = .ok (.aload_n 0, 1) := by decide +kernel
theorem d_F_publishAs_13 : decode b_F_publishAs 13 = .ok (.getfield 33, 3) := by decide +kernel
theorem d_F_publishAs_16 : decode b_F_publishAs 16 = .ok (.if_icmp .ge 66, 3) := by decide +kernel
theorem d_F_publishAs_19 : decode b_F_publishAs 19 = .ok (.aload_n 0, 1) := by decide +kernel
theorem d_F_publishAs_20 : decode b_F_publishAs 20 = .ok (.getfield 25, 3) := by decide +kernel
theorem d_F_publishAs_23 : decode b_F_publishAs 23 = .ok (.iload_n 2, 1) := by decide +kernel
theorem d_F_publishAs_24 : decode b_F_publishAs 24 = .ok (.aaload, 1) := by decide +kernel
theorem d_F_publishAs_25 : decode b_F_publishAs 25 = .ok (.getfield 101, 3) := by decide +kernel
theorem d_F_publishAs_28 : decode b_F_publishAs 28 = .ok (.istore_n 3, 1) := by decide +kernel
theorem d_F_publishAs_29 : decode b_F_publishAs 29 = .ok (.aload_n 0, 1) := by decide +kernel
theorem d_F_publishAs_30 : decode b_F_publishAs 30 = .ok (.getfield 20, 3) := by decide +kernel
theorem d_F_publishAs_33 : decode b_F_publishAs 33 = .ok (.aload_n 0, 1) := by decide +kernel
theorem d_F_publishAs_34 : decode b_F_publishAs 34 = .ok (.getfield 14, 3) := by decide +kernel
theorem d_F_publishAs_37 : decode b_F_publishAs 37 = .ok (.iload_n 3, 1) := by decide +kernel
theorem d_F_publishAs_38 : decode b_F_publishAs 38 = .ok (.iconst 4, 1) := by decide +kernel
theorem d_F_publishAs_39 : decode b_F_publishAs 39 = .ok (.iadd, 1) := by decide +kernel
theorem d_F_publishAs_40 : decode b_F_publishAs 40 = .ok (.iconst 4, 1) := by decide +kernel
theorem d_F_publishAs_41 : decode b_F_publishAs 41 = .ok (.invokevirtual 104, 3) := by decide +kernel
theorem d_F_publishAs_44 : decode b_F_publishAs 44 = .ok (.aload_n 0, 1) := by decide +kernel
theorem d_F_publishAs_45 : decode b_F_publishAs 45 = .ok (.getfield 20, 3) := by decide +kernel
theorem d_F_publishAs_48 : decode b_F_publishAs 48 = .ok (.iload_n 3, 1) := by decide +kernel
theorem d_F_publishAs_49 : decode b_F_publishAs 49 = .ok (.invokevirtual 66, 3) := by decide +kernel
theorem d_F_publishAs_52 : decode b_F_publishAs 52 = .ok (.aload_n 0, 1) := by decide +kernel
theorem d_F_publishAs_53 : decode b_F_publishAs 53 = .ok (.getfield 20, 3) := by decide +kernel
theorem d_F_publishAs_56 : decode b_F_publishAs 56 = .ok (.aload_n 0, 1) := by decide +kernel
theorem d_F_publishAs_57 : decode b_F_publishAs 57 = .ok (.getfield 14, 3) := by decide +kernel
theorem d_F_publishAs_60 : decode b_F_publishAs 60 = .ok (.iload_n 3, 1) := by decide +kernel
theorem d_F_publishAs_61 : decode b_F_publishAs 61 = .ok (.bipush 8, 2) := by decide +kernel
theorem d_F_publishAs_63 : decode b_F_publishAs 63 = .ok (.iadd, 1) := by decide +kernel
theorem d_F_publishAs_64 : decode b_F_publishAs 64 = .ok (.aload_n 0, 1) := by decide +kernel
theorem d_F_publishAs_65 : decode b_F_publishAs 65 = .ok (.getfield 25, 3) := by decide +kernel
theorem d_F_publishAs_68 : decode b_F_publishAs 68 = .ok (.iload_n 2, 1) := by decide +kernel
theorem d_F_publishAs_69 : decode b_F_publishAs 69 = .ok (.aaload, 1) := by decide +kernel
theorem d_F_publishAs_70 : decode b_F_publishAs 70 = .ok (.invokevirtual 108, 3) := by decide +kernel
theorem d_F_publishAs_73 : decode b_F_publishAs 73 = .ok (.invokevirtual 104, 3) := by decide +kernel
theorem d_F_publishAs_76 : decode b_F_publishAs 76 = .ok (.iinc 2 1, 3) := by decide +kernel
theorem d_F_publishAs_79 : decode b_F_publishAs 79 = .ok (.goto (-68), 3) := by decide +kernel
theorem d_F_publishAs_82 : decode b_F_publishAs 82 = .ok (.aload_n 0, 1) := by decide +kernel
theorem d_F_publishAs_83 : decode b_F_publishAs 83 = .ok (.getfield 20, 3) := by decide +kernel
theorem d_F_publishAs_86 : decode b_F_publishAs 86 = .ok (.aload_n 0, 1) := by decide +kernel
theorem d_F_publishAs_87 : decode b_F_publishAs 87 = .ok (.getfield 20, 3) := by decide +kernel
theorem d_F_publishAs_90 : decode b_F_publishAs 90 = .ok (.iconst 0, 1) := by decide +kernel
theorem d_F_publishAs_91 : decode b_F_publishAs 91 = .ok (.aload_n 0, 1) := by decide +kernel
theorem d_F_publishAs_92 : decode b_F_publishAs 92 = .ok (.getfield 20, 3) := by decide +kernel
theorem d_F_publishAs_95 : decode b_F_publishAs 95 = .ok (.invokevirtual 43, 3) := by decide +kernel
theorem d_F_publishAs_98 : decode b_F_publishAs 98 = .ok (.invokevirtual 76, 3) := by decide +kernel
theorem d_F_publishAs_101 : decode b_F_publishAs 101 = .ok (.iconst 4, 1) := by decide +kernel
theorem d_F_publishAs_102 : decode b_F_publishAs 102 = .ok (.invokevirtual 62, 3) := by decide +kernel
theorem d_F_publishAs_105 : decode b_F_publishAs 105 = .ok (.return_, 1) := by decide +kernel
theorem d_F_learn_0 : decode b_F_learn 0 = .ok (.iload_n 1, 1) := by decide +kernel
theorem d_F_learn_1 : decode b_F_learn 1 = .ok (.ifCond .eq 10, 3) := by decide +kernel
theorem d_F_learn_4 : decode b_F_learn 4 = .ok (.aload_n 0, 1) := by decide +kernel
theorem d_F_learn_5 : decode b_F_learn 5 = .ok (.invokevirtual 111, 3) := by decide +kernel
theorem d_F_learn_8 : decode b_F_learn 8 = .ok (.ifCond .ne 7, 3) := by decide +kernel
theorem d_F_learn_11 : decode b_F_learn 11 = .ok (.aload_n 0, 1) := by decide +kernel
theorem d_F_learn_12 : decode b_F_learn 12 = .ok (.invokevirtual 115, 3) := by decide +kernel
theorem d_F_learn_15 : decode b_F_learn 15 = .ok (.aload_n 0, 1) := by decide +kernel
theorem d_F_learn_16 : decode b_F_learn 16 = .ok (.invokevirtual 47, 3) := by decide +kernel
theorem d_F_learn_19 : decode b_F_learn 19 = .ok (.return_, 1) := by decide +kernel
theorem d_F_learnFromHint_0 : decode b_F_learnFromHint 0 = .ok (.aload_n 0, 1) := by decide +kernel
theorem d_F_learnFromHint_1 : decode b_F_learnFromHint 1 = .ok (.getfield 20, 3) := by decide +kernel
theorem d_F_learnFromHint_4 : decode b_F_learnFromHint 4 = .ok (.invokevirtual 43, 3) := by decide +kernel
theorem d_F_learnFromHint_7 : decode b_F_learnFromHint 7 = .ok (.iconst 4, 1) := by decide +kernel
theorem d_F_learnFromHint_8 : decode b_F_learnFromHint 8 = .ok (.isub, 1) := by decide +kernel
theorem d_F_learnFromHint_9 : decode b_F_learnFromHint 9 = .ok (.istore_n 1, 1) := by decide +kernel
theorem d_F_learnFromHint_10 : decode b_F_learnFromHint 10 = .ok (.iload_n 1, 1) := by decide +kernel
theorem d_F_learnFromHint_11 : decode b_F_learnFromHint 11 = .ok (.ifCond .lt 25, 3) := by decide +kernel
theorem d_F_learnFromHint_14 : decode b_F_learnFromHint 14 = .ok (.aload_n 0, 1) := by decide +kernel
theorem d_F_learnFromHint_15 : decode b_F_learnFromHint 15 = .ok (.getfield 20, 3) := by decide +kernel
theorem d_F_learnFromHint_18 : decode b_F_learnFromHint 18 = .ok (.iload_n 1, 1) := by decide +kernel
theorem d_F_learnFromHint_19 : decode b_F_learnFromHint 19 = .ok (.iconst 4, 1) := by decide +kernel
theorem d_F_learnFromHint_20 : decode b_F_learnFromHint 20 = .ok (.invokevirtual 99, 3) := by decide +kernel
theorem d_F_learnFromHint_23 : decode b_F_learnFromHint 23 = .ok (.aload_n 0, 1) := by decide +kernel
theorem d_F_learnFromHint_24 : decode b_F_learnFromHint 24 = .ok (.getfield 20, 3) := by decide +kernel
theorem d_F_learnFromHint_27 : decode b_F_learnFromHint 27 = .ok (.iconst 0, 1) := by decide +kernel
theorem d_F_learnFromHint_28 : decode b_F_learnFromHint 28 = .ok (.iload_n 1, 1) := by decide +kernel
theorem d_F_learnFromHint_29 : decode b_F_learnFromHint 29 = .ok (.invokevirtual 76, 3) := by decide +kernel
theorem d_F_learnFromHint_32 : decode b_F_learnFromHint 32 = .ok (.lcmp, 1) := by decide +kernel
theorem d_F_learnFromHint_33 : decode b_F_learnFromHint 33 = .ok (.ifCond .eq 5, 3) := by decide +kernel
theorem d_F_learnFromHint_36 : decode b_F_learnFromHint 36 = .ok (.iconst 0, 1) := by decide +kernel
theorem d_F_learnFromHint_37 : decode b_F_learnFromHint 37 = .ok (.ireturn, 1) := by decide +kernel
theorem d_F_learnFromHint_38 : decode b_F_learnFromHint 38 = .ok (.aload_n 0, 1) := by decide +kernel
theorem d_F_learnFromHint_39 : decode b_F_learnFromHint 39 = .ok (.iconst 0, 1) := by decide +kernel
theorem d_F_learnFromHint_40 : decode b_F_learnFromHint 40 = .ok (.putfield 33, 3) := by decide +kernel
theorem d_F_learnFromHint_43 : decode b_F_learnFromHint 43 = .ok (.iconst 0, 1) := by decide +kernel
theorem d_F_learnFromHint_44 : decode b_F_learnFromHint 44 = .ok (.istore_n 2, 1) := by decide +kernel
theorem d_F_learnFromHint_45 : decode b_F_learnFromHint 45 = .ok (.iconst 0, 1) := by decide +kernel
theorem d_F_learnFromHint_46 : decode b_F_learnFromHint 46 = .ok (.istore_n 3, 1) := by decide +kernel
theorem d_F_learnFromHint_47 : decode b_F_learnFromHint 47 = .ok (.iconst 0, 1) := by decide +kernel
theorem d_F_learnFromHint_48 : decode b_F_learnFromHint 48 = .ok (.istore 4, 2) := by decide +kernel
theorem d_F_learnFromHint_50 : decode b_F_learnFromHint 50 = .ok (.iload 4, 2) := by decide +kernel
theorem d_F_learnFromHint_52 : decode b_F_learnFromHint 52 = .ok (.bipush 11, 2) := by decide +kernel
theorem d_F_learnFromHint_54 : decode b_F_learnFromHint 54 = .ok (.if_icmp .ge 117, 3) := by decide +kernel
theorem d_F_learnFromHint_57 : decode b_F_learnFromHint 57 = .ok (.iload_n 3, 1) := by decide +kernel
theorem d_F_learnFromHint_58 : decode b_F_learnFromHint 58 = .ok (.iload_n 1, 1) := by decide +kernel
theorem d_F_learnFromHint_59 : decode b_F_learnFromHint 59 = .ok (.if_icmp .ge 112, 3) := by decide +kernel
theorem d_F_learnFromHint_62 : decode b_F_learnFromHint 62 = .ok (.aload_n 0, 1) := by decide +kernel
theorem d_F_learnFromHint_63 : decode b_F_learnFromHint 63 = .ok (.getfield 20, 3) := by decide +kernel
theorem d_F_learnFromHint_66 : decode b_F_learnFromHint 66 = .ok (.iload_n 3, 1) := by decide +kernel
theorem d_F_learnFromHint_67 : decode b_F_learnFromHint 67 = .ok (.iconst 2, 1) := by decide +kernel
theorem d_F_learnFromHint_68 : decode b_F_learnFromHint 68 = .ok (.iadd, 1) := by decide +kernel
theorem d_F_learnFromHint_69 : decode b_F_learnFromHint 69 = .ok (.invokevirtual 118, 3) := by decide +kernel
theorem d_F_learnFromHint_72 : decode b_F_learnFromHint 72 = .ok (.istore 5, 2) := by decide +kernel
theorem d_F_learnFromHint_74 : decode b_F_learnFromHint 74 = .ok (.aload_n 0, 1) := by decide +kernel
theorem d_F_learnFromHint_75 : decode b_F_learnFromHint 75 = .ok (.getfield 20, 3) := by decide +kernel
theorem d_F_learnFromHint_78 : decode b_F_learnFromHint 78 = .ok (.iload_n 3, 1) := by decide +kernel
theorem d_F_learnFromHint_79 : decode b_F_learnFromHint 79 = .ok (.iconst 3, 1) := by decide +kernel
theorem d_F_learnFromHint_80 : decode b_F_learnFromHint 80 = .ok (.iadd, 1) := by decide +kernel
theorem d_F_learnFromHint_81 : decode b_F_learnFromHint 81 = .ok (.invokevirtual 118, 3) := by decide +kernel
theorem d_F_learnFromHint_84 : decode b_F_learnFromHint 84 = .ok (.istore 6, 2) := by decide +kernel
theorem d_F_learnFromHint_86 : decode b_F_learnFromHint 86 = .ok (.iload 5, 2) := by decide +kernel
theorem d_F_learnFromHint_88 : decode b_F_learnFromHint 88 = .ok (.invokestatic 121, 3) := by decide +kernel
theorem d_F_learnFromHint_91 : decode b_F_learnFromHint 91 = .ok (.ifCond .eq 25, 3) := by decide +kernel
theorem d_F_learnFromHint_94 : decode b_F_learnFromHint 94 = .ok (.iload 6, 2) := by decide +kernel
theorem d_F_learnFromHint_96 : decode b_F_learnFromHint 96 = .ok (.invokestatic 125, 3) := by decide +kernel
theorem d_F_learnFromHint_99 : decode b_F_learnFromHint 99 = .ok (.ifCond .eq 17, 3) := by decide +kernel
theorem d_F_learnFromHint_102 : decode b_F_learnFromHint 102 = .ok (.aload_n 0, 1) := by decide +kernel
theorem d_F_learnFromHint_103 : decode b_F_learnFromHint 103 = .ok (.getfield 20, 3) := by decide +kernel
theorem d_F_learnFromHint_106 : decode b_F_learnFromHint 106 = .ok (.iload_n 3, 1) := by decide +kernel
theorem d_F_learnFromHint_107 : decode b_F_learnFromHint 107 = .ok (.iconst 4, 1) := by decide +kernel
theorem d_F_learnFromHint_108 : decode b_F_learnFromHint 108 = .ok (.iadd, 1) := by decide +kernel
theorem d_F_learnFromHint_109 : decode b_F_learnFromHint 109 = .ok (.invokevirtual 118, 3) := by decide +kernel
theorem d_F_learnFromHint_112 : decode b_F_learnFromHint 112 = .ok (.iload_n 2, 1) := by decide +kernel
theorem d_F_learnFromHint_113 : decode b_F_learnFromHint 113 = .ok (.if_icmp .eq 5, 3) := by decide +kernel
theorem d_F_learnFromHint_116 : decode b_F_learnFromHint 116 = .ok (.iconst 0, 1) := by decide +kernel
theorem d_F_learnFromHint_117 : decode b_F_learnFromHint 117 = .ok (.ireturn, 1) := by decide +kernel
theorem d_F_learnFromHint_118 : decode b_F_learnFromHint 118 = .ok (.aload_n 0, 1) := by decide +kernel
theorem d_F_learnFromHint_119 : decode b_F_learnFromHint 119 = .ok (.getfield 20, 3) := by decide +kernel
theorem d_F_learnFromHint_122 : decode b_F_learnFromHint 122 = .ok (.iload_n 3, 1) := by decide +kernel
theorem d_F_learnFromHint_123 : decode b_F_learnFromHint 123 = .ok (.iconst 5, 1) := by decide +kernel
theorem d_F_learnFromHint_124 : decode b_F_learnFromHint 124 = .ok (.iadd, 1) := by decide +kernel
theorem d_F_learnFromHint_125 : decode b_F_learnFromHint 125 = .ok (.iload 5, 2) := by decide +kernel
theorem d_F_learnFromHint_127 : decode b_F_learnFromHint 127 = .ok (.invokevirtual 99, 3) := by decide +kernel
theorem d_F_learnFromHint_130 : decode b_F_learnFromHint 130 = .ok (.iload 5, 2) := by decide +kernel
theorem d_F_learnFromHint_132 : decode b_F_learnFromHint 132 = .ok (.invokestatic 128, 3) := by decide +kernel
theorem d_F_learnFromHint_135 : decode b_F_learnFromHint 135 = .ok (.lstore 7, 2) := by decide +kernel
theorem d_F_learnFromHint_137 : decode b_F_learnFromHint 137 = .ok (.aload_n 0, 1) := by decide +kernel
theorem d_F_learnFromHint_138 : decode b_F_learnFromHint 138 = .ok (.iload_n 2, 1) := by decide +kernel
theorem d_F_learnFromHint_139 : decode b_F_learnFromHint 139 = .ok (.lload 7, 2) := by decide +kernel
theorem d_F_learnFromHint_141 : decode b_F_learnFromHint 141 = .ok (.iload 6, 2) := by decide +kernel
theorem d_F_learnFromHint_143 : decode b_F_learnFromHint 143 = .ok (.aconst_null, 1) := by decide +kernel
theorem d_F_learnFromHint_144 : decode b_F_learnFromHint 144 = .ok (.invokevirtual 84, 3) := by decide +kernel
theorem d_F_learnFromHint_147 : decode b_F_learnFromHint 147 = .ok (.pop, 1) := by decide +kernel
theorem d_F_learnFromHint_148 : decode b_F_learnFromHint 148 = .ok (.iload_n 2, 1) := by decide +kernel
theorem d_F_learnFromHint_149 : decode b_F_learnFromHint 149 = .ok (.iload 5, 2) := by decide +kernel
theorem d_F_learnFromHint_151 : decode b_F_learnFromHint 151 = .ok (.iload 6, 2) := by decide +kernel
theorem d_F_learnFromHint_153 : decode b_F_learnFromHint 153 = .ok (.invokestatic 131, 3) := by decide +kernel
theorem d_F_learnFromHint_156 : decode b_F_learnFromHint 156 = .ok (.iadd, 1) := by decide +kernel
theorem d_F_learnFromHint_157 : decode b_F_learnFromHint 157 = .ok (.istore_n 2, 1) := by decide +kernel
theorem d_F_learnFromHint_158 : decode b_F_learnFromHint 158 = .ok (.iload_n 3, 1) := by decide +kernel
theorem d_F_learnFromHint_159 : decode b_F_learnFromHint 159 = .ok (.iconst 5, 1) := by decide +kernel
theorem d_F_learnFromHint_160 : decode b_F_learnFromHint 160 = .ok (.iload 5, 2) := by decide +kernel
theorem d_F_learnFromHint_162 : decode b_F_learnFromHint 162 = .ok (.iadd, 1) := by decide +kernel
theorem d_F_learnFromHint_163 : decode b_F_learnFromHint 163 = .ok (.iadd, 1) := by decide +kernel
theorem d_F_learnFromHint_164 : decode b_F_learnFromHint 164 = .ok (.istore_n 3, 1) := by decide +kernel
theorem d_F_learnFromHint_165 : decode b_F_learnFromHint 165 = .ok (.iinc 4 1, 3) := by decide +kernel
theorem d_F_learnFromHint_168 : decode b_F_learnFromHint 168 = .ok (.goto (-118), 3) := by decide +kernel
theorem d_F_learnFromHint_171 : decode b_F_learnFromHint 171 = .ok (.iload_n 3, 1) := by decide +kernel
theorem d_F_learnFromHint_172 : decode b_F_learnFromHint 172 = .ok (.iload_n 1, 1) := by decide +kernel
theorem d_F_learnFromHint_173 : decode b_F_learnFromHint 173 = .ok (.if_icmp .ne 18, 3) := by decide +kernel
theorem d_F_learnFromHint_176 : decode b_F_learnFromHint 176 = .ok (.iload_n 2, 1) := by decide +kernel
theorem d_F_learnFromHint_177 : decode b_F_learnFromHint 177 = .ok (.aload_n 0, 1) := by decide +kernel
theorem d_F_learnFromHint_178 : decode b_F_learnFromHint 178 = .ok (.getfield 14, 3) := by decide +kernel
theorem d_F_learnFromHint_181 : decode b_F_learnFromHint 181 = .ok (.invokevirtual 43, 3) := by decide +kernel
theorem d_F_learnFromHint_184 : decode b_F_learnFromHint 184 = .ok (.if_icmp .ne 7, 3) := by decide +kernel
theorem d_F_learnFromHint_187 : decode b_F_learnFromHint 187 = .ok (.iconst 1, 1) := by decide +kernel
theorem d_F_learnFromHint_188 : decode b_F_learnFromHint 188 = .ok (.goto 4, 3) := by decide +kernel
theorem d_F_learnFromHint_191 : decode b_F_learnFromHint 191 = .ok (.iconst 0, 1) := by decide +kernel
theorem d_F_learnFromHint_192 : decode b_F_learnFromHint 192 = .ok (.ireturn, 1) := by decide +kernel
theorem d_F_learnFromBytes_0 : decode b_F_learnFromBytes 0 = .ok (.aload_n 0, 1) := by decide +kernel
theorem d_F_learnFromBytes_1 : decode b_F_learnFromBytes 1 = .ok (.iconst 0, 1) := by decide +kernel
theorem d_F_learnFromBytes_2 : decode b_F_learnFromBytes 2 = .ok (.putfield 33, 3) := by decide +kernel
theorem d_F_learnFromBytes_5 : decode b_F_learnFromBytes 5 = .ok (.iconst 0, 1) := by decide +kernel
theorem d_F_learnFromBytes_6 : decode b_F_learnFromBytes 6 = .ok (.istore_n 1, 1) := by decide +kernel
theorem d_F_learnFromBytes_7 : decode b_F_learnFromBytes 7 = .ok (.iconst 0, 1) := by decide +kernel
theorem d_F_learnFromBytes_8 : decode b_F_learnFromBytes 8 = .ok (.istore_n 2, 1) := by decide +kernel
theorem d_F_learnFromBytes_9 : decode b_F_learnFromBytes 9 = .ok (.iload_n 2, 1) := by decide +kernel
theorem d_F_learnFromBytes_10 : decode b_F_learnFromBytes 10 = .ok (.bipush 11, 2) := by decide +kernel
theorem d_F_learnFromBytes_12 : decode b_F_learnFromBytes 12 = .ok (.if_icmp .ge 79, 3) := by decide +kernel
theorem d_F_learnFromBytes_15 : decode b_F_learnFromBytes 15 = .ok (.aload_n 0, 1) := by decide +kernel
theorem d_F_learnFromBytes_16 : decode b_F_learnFromBytes 16 = .ok (.iload_n 1, 1) := by decide +kernel
theorem d_F_learnFromBytes_17 : decode b_F_learnFromBytes 17 = .ok (.invokevirtual 135, 3) := by decide +kernel
theorem d_F_learnFromBytes_20 : decode b_F_learnFromBytes 20 = .ok (.istore_n 3, 1) := by decide +kernel
theorem d_F_learnFromBytes_21 : decode b_F_learnFromBytes 21 = .ok (.iload_n 3, 1) := by decide +kernel
theorem d_F_learnFromBytes_22 : decode b_F_learnFromBytes 22 = .ok (.ifCond .ne 6, 3) := by decide +kernel
theorem d_F_learnFromBytes_25 : decode b_F_learnFromBytes 25 = .ok (.goto 66, 3) := by decide +kernel
theorem d_F_learnFromBytes_28 : decode b_F_learnFromBytes 28 = .ok (.aload_n 0, 1) := by decide +kernel
theorem d_F_learnFromBytes_29 : decode b_F_learnFromBytes 29 = .ok (.getfield 14, 3) := by decide +kernel
theorem d_F_learnFromBytes_32 : decode b_F_learnFromBytes 32 = .ok (.iload_n 1, 1) := by decide +kernel
theorem d_F_learnFromBytes_33 : decode b_F_learnFromBytes 33 = .ok (.bipush 6, 2) := by decide +kernel
theorem d_F_learnFromBytes_35 : decode b_F_learnFromBytes 35 = .ok (.iadd, 1) := by decide +kernel
theorem d_F_learnFromBytes_36 : decode b_F_learnFromBytes 36 = .ok (.invokevirtual 118, 3) := by decide +kernel
theorem d_F_learnFromBytes_39 : decode b_F_learnFromBytes 39 = .ok (.istore 4, 2) := by decide +kernel
theorem d_F_learnFromBytes_41 : decode b_F_learnFromBytes 41 = .ok (.aload_n 0, 1) := by decide +kernel
theorem d_F_learnFromBytes_42 : decode b_F_learnFromBytes 42 = .ok (.getfield 14, 3) := by decide +kernel
theorem d_F_learnFromBytes_45 : decode b_F_learnFromBytes 45 = .ok (.iload_n 1, 1) := by decide +kernel
theorem d_F_learnFromBytes_46 : decode b_F_learnFromBytes 46 = .ok (.bipush 8, 2) := by decide +kernel
theorem d_F_learnFromBytes_48 : decode b_F_learnFromBytes 48 = .ok (.iadd, 1) := by decide +kernel
theorem d_F_learnFromBytes_49 : decode b_F_learnFromBytes 49 = .ok (.iload 4, 2) := by decide +kernel
theorem d_F_learnFromBytes_51 : decode b_F_learnFromBytes 51 = .ok (.invokevirtual 99, 3) := by decide +kernel
theorem d_F_learnFromBytes_54 : decode b_F_learnFromBytes 54 = .ok (.iload 4, 2) := by decide +kernel
theorem d_F_learnFromBytes_56 : decode b_F_learnFromBytes 56 = .ok (.invokestatic 128, 3) := by decide +kernel
theorem d_F_learnFromBytes_59 : decode b_F_learnFromBytes 59 = .ok (.lstore 5, 2) := by decide +kernel
theorem d_F_learnFromBytes_61 : decode b_F_learnFromBytes 61 = .ok (.aload_n 0, 1) := by decide +kernel
theorem d_F_learnFromBytes_62 : decode b_F_learnFromBytes 62 = .ok (.iload_n 1, 1) := by decide +kernel
theorem d_F_learnFromBytes_63 : decode b_F_learnFromBytes 63 = .ok (.lload 5, 2) := by decide +kernel
theorem d_F_learnFromBytes_65 : decode b_F_learnFromBytes 65 = .ok (.aload_n 0, 1) := by decide +kernel
theorem d_F_learnFromBytes_66 : decode b_F_learnFromBytes 66 = .ok (.getfield 14, 3) := by decide +kernel
theorem d_F_learnFromBytes_69 : decode b_F_learnFromBytes 69 = .ok (.iload_n 1, 1) := by decide +kernel
theorem d_F_learnFromBytes_70 : decode b_F_learnFromBytes 70 = .ok (.bipush 7, 2) := by decide +kernel
theorem d_F_learnFromBytes_72 : decode b_F_learnFromBytes 72 = .ok (.iadd, 1) := by decide +kernel
theorem d_F_learnFromBytes_73 : decode b_F_learnFromBytes 73 = .ok (.invokevirtual 118, 3) := by decide +kernel
theorem d_F_learnFromBytes_76 : decode b_F_learnFromBytes 76 = .ok (.aconst_null, 1) := by decide +kernel
theorem d_F_learnFromBytes_77 : decode b_F_learnFromBytes 77 = .ok (.invokevirtual 84, 3) := by decide +kernel
theorem d_F_learnFromBytes_80 : decode b_F_learnFromBytes 80 = .ok (.pop, 1) := by decide +kernel
theorem d_F_learnFromBytes_81 : decode b_F_learnFromBytes 81 = .ok (.iload_n 1, 1) := by decide +kernel
theorem d_F_learnFromBytes_82 : decode b_F_learnFromBytes 82 = .ok (.iload_n 3, 1) := by decide +kernel
theorem d_F_learnFromBytes_83 : decode b_F_learnFromBytes 83 = .ok (.iadd, 1) := by decide +kernel
theorem d_F_learnFromBytes_84 : decode b_F_learnFromBytes 84 = .ok (.istore_n 1, 1) := by decide +kernel
theorem d_F_learnFromBytes_85 : decode b_F_learnFromBytes 85 = .ok (.iinc 2 1, 3) := by decide +kernel
theorem d_F_learnFromBytes_88 : decode b_F_learnFromBytes 88 = .ok (.goto (-79), 3) := by decide +kernel
theorem d_F_learnFromBytes_91 : decode b_F_learnFromBytes 91 = .ok (.aload_n 0, 1) := by decide +kernel
theorem d_F_learnFromBytes_92 : decode b_F_learnFromBytes 92 = .ok (.getfield 14, 3) := by decide +kernel
theorem d_F_learnFromBytes_95 : decode b_F_learnFromBytes 95 = .ok (.iload_n 1, 1) := by decide +kernel
theorem d_F_learnFromBytes_96 : decode b_F_learnFromBytes 96 = .ok (.invokevirtual 30, 3) := by decide +kernel
theorem d_F_learnFromBytes_99 : decode b_F_learnFromBytes 99 = .ok (.return_, 1) := by decide +kernel
theorem d_F_soundSize_0 : decode b_F_soundSize 0 = .ok (.iload_n 1, 1) := by decide +kernel
theorem d_F_soundSize_1 : decode b_F_soundSize 1 = .ok (.bipush 8, 2) := by decide +kernel
theorem d_F_soundSize_3 : decode b_F_soundSize 3 = .ok (.iadd, 1) := by decide +kernel
theorem d_F_soundSize_4 : decode b_F_soundSize 4 = .ok (.aload_n 0, 1) := by decide +kernel
theorem d_F_soundSize_5 : decode b_F_soundSize 5 = .ok (.getfield 14, 3) := by decide +kernel
theorem d_F_soundSize_8 : decode b_F_soundSize 8 = .ok (.invokevirtual 43, 3) := by decide +kernel
theorem d_F_soundSize_11 : decode b_F_soundSize 11 = .ok (.if_icmp .le 5, 3) := by decide +kernel
theorem d_F_soundSize_14 : decode b_F_soundSize 14 = .ok (.iconst 0, 1) := by decide +kernel
theorem d_F_soundSize_15 : decode b_F_soundSize 15 = .ok (.ireturn, 1) := by decide +kernel
theorem d_F_soundSize_16 : decode b_F_soundSize 16 = .ok (.aload_n 0, 1) := by decide +kernel
theorem d_F_soundSize_17 : decode b_F_soundSize 17 = .ok (.getfield 14, 3) := by decide +kernel
theorem d_F_soundSize_20 : decode b_F_soundSize 20 = .ok (.iload_n 1, 1) := by decide +kernel
theorem d_F_soundSize_21 : decode b_F_soundSize 21 = .ok (.bipush 6, 2) := by decide +kernel
theorem d_F_soundSize_23 : decode b_F_soundSize 23 = .ok (.iadd, 1) := by decide +kernel
theorem d_F_soundSize_24 : decode b_F_soundSize 24 = .ok (.invokevirtual 118, 3) := by decide +kernel
theorem d_F_soundSize_27 : decode b_F_soundSize 27 = .ok (.istore_n 2, 1) := by decide +kernel
theorem d_F_soundSize_28 : decode b_F_soundSize 28 = .ok (.aload_n 0, 1) := by decide +kernel
theorem d_F_soundSize_29 : decode b_F_soundSize 29 = .ok (.getfield 14, 3) := by decide +kernel
theorem d_F_soundSize_32 : decode b_F_soundSize 32 = .ok (.iload_n 1, 1) := by decide +kernel
theorem d_F_soundSize_33 : decode b_F_soundSize 33 = .ok (.bipush 7, 2) := by decide +kernel
theorem d_F_soundSize_35 : decode b_F_soundSize 35 = .ok (.iadd, 1) := by decide +kernel
theorem d_F_soundSize_36 : decode b_F_soundSize 36 = .ok (.invokevirtual 118, 3) := by decide +kernel
theorem d_F_soundSize_39 : decode b_F_soundSize 39 = .ok (.istore_n 3, 1) := by decide +kernel
theorem d_F_soundSize_40 : decode b_F_soundSize 40 = .ok (.iload_n 3, 1) := by decide +kernel
theorem d_F_soundSize_41 : decode b_F_soundSize 41 = .ok (.sipush 255, 3) := by decide +kernel
theorem d_F_soundSize_44 : decode b_F_soundSize 44 = .ok (.if_icmp .ne 7, 3) := by decide +kernel
theorem d_F_soundSize_47 : decode b_F_soundSize 47 = .ok (.iconst 1, 1) := by decide +kernel
theorem d_F_soundSize_48 : decode b_F_soundSize 48 = .ok (.goto 4, 3) := by decide +kernel
theorem d_F_soundSize_51 : decode b_F_soundSize 51 = .ok (.iconst 0, 1) := by decide +kernel
theorem d_F_soundSize_52 : decode b_F_soundSize 52 = .ok (.istore 4, 2) := by decide +kernel
theorem d_F_soundSize_54 : decode b_F_soundSize 54 = .ok (.iload_n 2, 1) := by decide +kernel
theorem d_F_soundSize_55 : decode b_F_soundSize 55 = .ok (.invokestatic 121, 3) := by decide +kernel
theorem d_F_soundSize_58 : decode b_F_soundSize 58 = .ok (.ifCond .eq 15, 3) := by decide +kernel
theorem d_F_soundSize_61 : decode b_F_soundSize 61 = .ok (.iload 4, 2) := by decide +kernel
theorem d_F_soundSize_63 : decode b_F_soundSize 63 = .ok (.ifCond .ne 12, 3) := by decide +kernel
theorem d_F_soundSize_66 : decode b_F_soundSize 66 = .ok (.iload_n 3, 1) := by decide +kernel
theorem d_F_soundSize_67 : decode b_F_soundSize 67 = .ok (.invokestatic 125, 3) := by decide +kernel
theorem d_F_soundSize_70 : decode b_F_soundSize 70 = .ok (.ifCond .ne 5, 3) := by decide +kernel
theorem d_F_soundSize_73 : decode b_F_soundSize 73 = .ok (.iconst 0, 1) := by decide +kernel
theorem d_F_soundSize_74 : decode b_F_soundSize 74 = .ok (.ireturn, 1) := by decide +kernel
theorem d_F_soundSize_75 : decode b_F_soundSize 75 = .ok (.iload_n 2, 1) := by decide +kernel
theorem d_F_soundSize_76 : decode b_F_soundSize 76 = .ok (.iload_n 3, 1) := by decide +kernel
theorem d_F_soundSize_77 : decode b_F_soundSize 77 = .ok (.invokestatic 131, 3) := by decide +kernel
theorem d_F_soundSize_80 : decode b_F_soundSize 80 = .ok (.istore 5, 2) := by decide +kernel
theorem d_F_soundSize_82 : decode b_F_soundSize 82 = .ok (.iload_n 1, 1) := by decide +kernel
theorem d_F_soundSize_83 : decode b_F_soundSize 83 = .ok (.iload 5, 2) := by decide +kernel
theorem d_F_soundSize_85 : decode b_F_soundSize 85 = .ok (.iadd, 1) := by decide +kernel
theorem d_F_soundSize_86 : decode b_F_soundSize 86 = .ok (.aload_n 0, 1) := by decide +kernel
theorem d_F_soundSize_87 : decode b_F_soundSize 87 = .ok (.getfield 14, 3) := by decide +kernel
theorem d_F_soundSize_90 : decode b_F_soundSize 90 = .ok (.invokevirtual 43, 3) := by decide +kernel
theorem d_F_soundSize_93 : decode b_F_soundSize 93 = .ok (.if_icmp .gt 18, 3) := by decide +kernel
theorem d_F_soundSize_96 : decode b_F_soundSize 96 = .ok (.aload_n 0, 1) := by decide +kernel
theorem d_F_soundSize_97 : decode b_F_soundSize 97 = .ok (.iload_n 1, 1) := by decide +kernel
theorem d_F_soundSize_98 : decode b_F_soundSize 98 = .ok (.iload 5, 2) := by decide +kernel
theorem d_F_soundSize_100 : decode b_F_soundSize 100 = .ok (.invokevirtual 138, 3) := by decide +kernel
theorem d_F_soundSize_103 : decode b_F_soundSize 103 = .ok (.ifCond .eq 8, 3) := by decide +kernel
theorem d_F_soundSize_106 : decode b_F_soundSize 106 = .ok (.iload 5, 2) := by decide +kernel
theorem d_F_soundSize_108 : decode b_F_soundSize 108 = .ok (.goto 4, 3) := by decide +kernel
theorem d_F_soundSize_111 : decode b_F_soundSize 111 = .ok (.iconst 0, 1) := by decide +kernel
theorem d_F_soundSize_112 : decode b_F_soundSize 112 = .ok (.ireturn, 1) := by decide +kernel
theorem d_F_note_0 : decode b_F_note 0 = .ok (.aload_n 0, 1) := by decide +kernel
theorem d_F_note_1 : decode b_F_note 1 = .ok (.getfield 33, 3) := by decide +kernel
theorem d_F_note_4 : decode b_F_note 4 = .ok (.aload_n 0, 1) := by decide +kernel
theorem d_F_note_5 : decode b_F_note 5 = .ok (.getfield 25, 3) := by decide +kernel
theorem d_F_note_8 : decode b_F_note 8 = .ok (.arraylength, 1) := by decide +kernel
theorem d_F_note_9 : decode b_F_note 9 = .ok (.if_icmp .ge 13, 3) := by decide +kernel
theorem d_F_note_12 : decode b_F_note 12 = .ok (.aload_n 0, 1) := by decide +kernel
theorem d_F_note_13 : decode b_F_note 13 = .ok (.dup, 1) := by decide +kernel
theorem d_F_note_14 : decode b_F_note 14 = .ok (.getfield 33, 3) := by decide +kernel
theorem d_F_note_17 : decode b_F_note 17 = .ok (.iconst 1, 1) := by decide +kernel
theorem d_F_note_18 : decode b_F_note 18 = .ok (.iadd, 1) := by decide +kernel
theorem d_F_note_19 : decode b_F_note 19 = .ok (.putfield 33, 3) := by decide +kernel
theorem d_F_note_22 : decode b_F_note 22 = .ok (.aload_n 0, 1) := by decide +kernel
theorem d_F_note_23 : decode b_F_note 23 = .ok (.getfield 25, 3) := by decide +kernel
theorem d_F_note_26 : decode b_F_note 26 = .ok (.aload_n 0, 1) := by decide +kernel
theorem d_F_note_27 : decode b_F_note 27 = .ok (.getfield 33, 3) := by decide +kernel
theorem d_F_note_30 : decode b_F_note 30 = .ok (.iconst 1, 1) := by decide +kernel
theorem d_F_note_31 : decode b_F_note 31 = .ok (.isub, 1) := by decide +kernel
theorem d_F_note_32 : decode b_F_note 32 = .ok (.aaload, 1) := by decide +kernel
theorem d_F_note_33 : decode b_F_note 33 = .ok (.astore 6, 2) := by decide +kernel
theorem d_F_note_35 : decode b_F_note 35 = .ok (.aload 6, 2) := by decide +kernel
theorem d_F_note_37 : decode b_F_note 37 = .ok (.aload_n 0, 1) := by decide +kernel
theorem d_F_note_38 : decode b_F_note 38 = .ok (.putfield 142, 3) := by decide +kernel
theorem d_F_note_41 : decode b_F_note 41 = .ok (.aload 6, 2) := by decide +kernel
theorem d_F_note_43 : decode b_F_note 43 = .ok (.iload_n 1, 1) := by decide +kernel
theorem d_F_note_44 : decode b_F_note 44 = .ok (.putfield 101, 3) := by decide +kernel
theorem d_F_note_47 : decode b_F_note 47 = .ok (.aload 6, 2) := by decide +kernel
theorem d_F_note_49 : decode b_F_note 49 = .ok (.lload_n 2, 1) := by decide +kernel
theorem d_F_note_50 : decode b_F_note 50 = .ok (.putfield 92, 3) := by decide +kernel
theorem d_F_note_53 : decode b_F_note 53 = .ok (.aload 6, 2) := by decide +kernel
theorem d_F_note_55 : decode b_F_note 55 = .ok (.iload 4, 2) := by decide +kernel
theorem d_F_note_57 : decode b_F_note 57 = .ok (.putfield 96, 3) := by decide +kernel
theorem d_F_note_60 : decode b_F_note 60 = .ok (.aload 6, 2) := by decide +kernel
theorem d_F_note_62 : decode b_F_note 62 = .ok (.aload 5, 2) := by decide +kernel
theorem d_F_note_64 : decode b_F_note 64 = .ok (.putfield 146, 3) := by decide +kernel
theorem d_F_note_67 : decode b_F_note 67 = .ok (.aload 6, 2) := by decide +kernel
theorem d_F_note_69 : decode b_F_note 69 = .ok (.areturn, 1) := by decide +kernel
