theorem d_L_put_0 : decode b_L_put 0 = .ok (.aload_n 0, 1) := by decide +kernel
theorem d_L_put_1 : decode b_L_put 1 = .ok (.lload_n 1, 1) := by decide +kernel
theorem d_L_put_2 : decode b_L_put 2 = .ok (.iload_n 3, 1) := by decide +kernel
theorem d_L_put_3 : decode b_L_put 3 = .ok (.lload 4, 2) := by decide +kernel
theorem d_L_put_5 : decode b_L_put 5 = .ok (.iload 6, 2) := by decide +kernel
theorem d_L_put_7 : decode b_L_put 7 = .ok (.invokevirtual 7, 3) := by decide +kernel
theorem d_L_put_10 : decode b_L_put 10 = .ok (.goto 15, 3) := by decide +kernel
theorem d_L_put_13 : decode b_L_put 13 = .ok (.astore 7, 2) := by decide +kernel
theorem d_L_put_15 : decode b_L_put 15 = .ok (.iconst 1, 1) := by decide +kernel
theorem d_L_put_16 : decode b_L_put 16 = .ok (.ireturn, 1) := by decide +kernel
theorem d_L_put_17 : decode b_L_put 17 = .ok (.astore 7, 2) := by decide +kernel
theorem d_L_put_19 : decode b_L_put 19 = .ok (.iconst 2, 1) := by decide +kernel
theorem d_L_put_20 : decode b_L_put 20 = .ok (.ireturn, 1) := by decide +kernel
theorem d_L_put_21 : decode b_L_put 21 = .ok (.astore 7, 2) := by decide +kernel
theorem d_L_put_23 : decode b_L_put 23 = .ok (.iconst 3, 1) := by decide +kernel
theorem d_L_put_24 : decode b_L_put 24 = .ok (.ireturn, 1) := by decide +kernel
theorem d_L_put_25 : decode b_L_put 25 = .ok (.iconst 0, 1) := by decide +kernel
theorem d_L_put_26 : decode b_L_put 26 = .ok (.ireturn, 1) := by decide +kernel
theorem d_L_delete_0 : decode b_L_delete 0 = .ok (.aload 4, 2) := by decide +kernel
theorem d_L_delete_2 : decode b_L_delete 2 = .ok (.iconst 0, 1) := by decide +kernel
theorem d_L_delete_3 : decode b_L_delete 3 = .ok (.aload_n 0, 1) := by decide +kernel
theorem d_L_delete_4 : decode b_L_delete 4 = .ok (.lload_n 1, 1) := by decide +kernel
theorem d_L_delete_5 : decode b_L_delete 5 = .ok (.iload_n 3, 1) := by decide +kernel
theorem d_L_delete_6 : decode b_L_delete 6 = .ok (.invokevirtual 19, 3) := by decide +kernel
theorem d_L_delete_9 : decode b_L_delete 9 = .ok (.ifCond .eq 7, 3) := by decide +kernel
theorem d_L_delete_12 : decode b_L_delete 12 = .ok (.lconst 1, 1) := by decide +kernel
theorem d_L_delete_13 : decode b_L_delete 13 = .ok (.goto 4, 3) := by decide +kernel
theorem d_L_delete_16 : decode b_L_delete 16 = .ok (.lconst 0, 1) := by decide +kernel
theorem d_L_delete_17 : decode b_L_delete 17 = .ok (.lastore, 1) := by decide +kernel
theorem d_L_delete_18 : decode b_L_delete 18 = .ok (.goto 15, 3) := by decide +kernel
theorem d_L_delete_21 : decode b_L_delete 21 = .ok (.astore 5, 2) := by decide +kernel
theorem d_L_delete_23 : decode b_L_delete 23 = .ok (.iconst 1, 1) := by decide +kernel
theorem d_L_delete_24 : decode b_L_delete 24 = .ok (.ireturn, 1) := by decide +kernel
theorem d_L_delete_25 : decode b_L_delete 25 = .ok (.astore 5, 2) := by decide +kernel
theorem d_L_delete_27 : decode b_L_delete 27 = .ok (.iconst 2, 1) := by decide +kernel
theorem d_L_delete_28 : decode b_L_delete 28 = .ok (.ireturn, 1) := by decide +kernel
theorem d_L_delete_29 : decode b_L_delete 29 = .ok (.astore 5, 2) := by decide +kernel
theorem d_L_delete_31 : decode b_L_delete 31 = .ok (.iconst 3, 1) := by decide +kernel
theorem d_L_delete_32 : decode b_L_delete 32 = .ok (.ireturn, 1) := by decide +kernel
theorem d_L_delete_33 : decode b_L_delete 33 = .ok (.iconst 0, 1) := by decide +kernel
theorem d_L_delete_34 : decode b_L_delete 34 = .ok (.ireturn, 1) := by decide +kernel
theorem d_L_get_0 : decode b_L_get 0 = .ok (.aload 4, 2) := by decide +kernel
theorem d_L_get_2 : decode b_L_get 2 = .ok (.iconst 0, 1) := by decide +kernel
theorem d_L_get_3 : decode b_L_get 3 = .ok (.aload_n 0, 1) := by decide +kernel
theorem d_L_get_4 : decode b_L_get 4 = .ok (.lload_n 1, 1) := by decide +kernel
theorem d_L_get_5 : decode b_L_get 5 = .ok (.iload_n 3, 1) := by decide +kernel
theorem d_L_get_6 : decode b_L_get 6 = .ok (.invokevirtual 23, 3) := by decide +kernel
theorem d_L_get_9 : decode b_L_get 9 = .ok (.lastore, 1) := by decide +kernel
theorem d_L_get_10 : decode b_L_get 10 = .ok (.goto 19, 3) := by decide +kernel
theorem d_L_get_13 : decode b_L_get 13 = .ok (.astore 5, 2) := by decide +kernel
theorem d_L_get_15 : decode b_L_get 15 = .ok (.iconst 1, 1) := by decide +kernel
theorem d_L_get_16 : decode b_L_get 16 = .ok (.ireturn, 1) := by decide +kernel
theorem d_L_get_17 : decode b_L_get 17 = .ok (.astore 5, 2) := by decide +kernel
theorem d_L_get_19 : decode b_L_get 19 = .ok (.iconst 2, 1) := by decide +kernel
theorem d_L_get_20 : decode b_L_get 20 = .ok (.ireturn, 1) := by decide +kernel
theorem d_L_get_21 : decode b_L_get 21 = .ok (.astore 5, 2) := by decide +kernel
theorem d_L_get_23 : decode b_L_get 23 = .ok (.iconst 3, 1) := by decide +kernel
theorem d_L_get_24 : decode b_L_get 24 = .ok (.ireturn, 1) := by decide +kernel
theorem d_L_get_25 : decode b_L_get 25 = .ok (.astore 5, 2) := by decide +kernel
theorem d_L_get_27 : decode b_L_get 27 = .ok (.iconst 4, 1) := by decide +kernel
theorem d_L_get_28 : decode b_L_get 28 = .ok (.ireturn, 1) := by decide +kernel
theorem d_L_get_29 : decode b_L_get 29 = .ok (.iconst 0, 1) := by decide +kernel
theorem d_L_get_30 : decode b_L_get 30 = .ok (.ireturn, 1) := by decide +kernel
theorem d_L_keys_0 : decode b_L_keys 0 = .ok (.aload_n 1, 1) := by decide +kernel
theorem d_L_keys_1 : decode b_L_keys 1 = .ok (.iconst 0, 1) := by decide +kernel
theorem d_L_keys_2 : decode b_L_keys 2 = .ok (.aload_n 0, 1) := by decide +kernel
theorem d_L_keys_3 : decode b_L_keys 3 = .ok (.invokevirtual 29, 3) := by decide +kernel
theorem d_L_keys_6 : decode b_L_keys 6 = .ok (.i2l, 1) := by decide +kernel
theorem d_L_keys_7 : decode b_L_keys 7 = .ok (.lastore, 1) := by decide +kernel
theorem d_L_keys_8 : decode b_L_keys 8 = .ok (.goto 6, 3) := by decide +kernel
theorem d_L_keys_11 : decode b_L_keys 11 = .ok (.astore_n 2, 1) := by decide +kernel
theorem d_L_keys_12 : decode b_L_keys 12 = .ok (.iconst 1, 1) := by decide +kernel
theorem d_L_keys_13 : decode b_L_keys 13 = .ok (.ireturn, 1) := by decide +kernel
theorem d_L_keys_14 : decode b_L_keys 14 = .ok (.iconst 0, 1) := by decide +kernel
theorem d_L_keys_15 : decode b_L_keys 15 = .ok (.ireturn, 1) := by decide +kernel
theorem d_L_key_0 : decode b_L_key 0 = .ok (.aload_n 3, 1) := by decide +kernel
theorem d_L_key_1 : decode b_L_key 1 = .ok (.iconst 0, 1) := by decide +kernel
theorem d_L_key_2 : decode b_L_key 2 = .ok (.aload_n 0, 1) := by decide +kernel
theorem d_L_key_3 : decode b_L_key 3 = .ok (.iload_n 1, 1) := by decide +kernel
theorem d_L_key_4 : decode b_L_key 4 = .ok (.iload_n 2, 1) := by decide +kernel
theorem d_L_key_5 : decode b_L_key 5 = .ok (.invokevirtual 33, 3) := by decide +kernel
theorem d_L_key_8 : decode b_L_key 8 = .ok (.lastore, 1) := by decide +kernel
theorem d_L_key_9 : decode b_L_key 9 = .ok (.goto 15, 3) := by decide +kernel
theorem d_L_key_12 : decode b_L_key 12 = .ok (.astore 4, 2) := by decide +kernel
theorem d_L_key_14 : decode b_L_key 14 = .ok (.iconst 1, 1) := by decide +kernel
theorem d_L_key_15 : decode b_L_key 15 = .ok (.ireturn, 1) := by decide +kernel
theorem d_L_key_16 : decode b_L_key 16 = .ok (.astore 4, 2) := by decide +kernel
theorem d_L_key_18 : decode b_L_key 18 = .ok (.iconst 2, 1) := by decide +kernel
theorem d_L_key_19 : decode b_L_key 19 = .ok (.ireturn, 1) := by decide +kernel
theorem d_L_key_20 : decode b_L_key 20 = .ok (.astore 4, 2) := by decide +kernel
theorem d_L_key_22 : decode b_L_key 22 = .ok (.iconst 3, 1) := by decide +kernel
theorem d_L_key_23 : decode b_L_key 23 = .ok (.ireturn, 1) := by decide +kernel
theorem d_L_key_24 : decode b_L_key 24 = .ok (.iconst 0, 1) := by decide +kernel
theorem d_L_key_25 : decode b_L_key 25 = .ok (.ireturn, 1) := by decide +kernel
theorem d_L_sync_0 : decode b_L_sync 0 = .ok (.aload_n 0, 1) := by decide +kernel
theorem d_L_sync_1 : decode b_L_sync 1 = .ok (.invokevirtual 37, 3) := by decide +kernel
theorem d_L_sync_4 : decode b_L_sync 4 = .ok (.goto 6, 3) := by decide +kernel
theorem d_L_sync_7 : decode b_L_sync 7 = .ok (.astore_n 1, 1) := by decide +kernel
theorem d_L_sync_8 : decode b_L_sync 8 = .ok (.iconst 1, 1) := by decide +kernel
theorem d_L_sync_9 : decode b_L_sync 9 = .ok (.ireturn, 1) := by decide +kernel
theorem d_L_sync_10 : decode b_L_sync 10 = .ok (.iconst 0, 1) := by decide +kernel
theorem d_L_sync_11 : decode b_L_sync 11 = .ok (.ireturn, 1) := by decide +kernel
theorem d_L_lose_0 : decode b_L_lose 0 = .ok (.aload_n 0, 1) := by decide +kernel
theorem d_L_lose_1 : decode b_L_lose 1 = .ok (.iload_n 1, 1) := by decide +kernel
theorem d_L_lose_2 : decode b_L_lose 2 = .ok (.invokevirtual 40, 3) := by decide +kernel
theorem d_L_lose_5 : decode b_L_lose 5 = .ok (.goto 6, 3) := by decide +kernel
theorem d_L_lose_8 : decode b_L_lose 8 = .ok (.astore_n 2, 1) := by decide +kernel
theorem d_L_lose_9 : decode b_L_lose 9 = .ok (.iconst 1, 1) := by decide +kernel
theorem d_L_lose_10 : decode b_L_lose 10 = .ok (.ireturn, 1) := by decide +kernel
theorem d_L_lose_11 : decode b_L_lose 11 = .ok (.iconst 0, 1) := by decide +kernel
theorem d_L_lose_12 : decode b_L_lose 12 = .ok (.ireturn, 1) := by decide +kernel
theorem d_L_merge_0 : decode b_L_merge 0 = .ok (.aload_n 2, 1) := by decide +kernel
theorem d_L_merge_1 : decode b_L_merge 1 = .ok (.iconst 0, 1) := by decide +kernel
theorem d_L_merge_2 : decode b_L_merge 2 = .ok (.aload_n 0, 1) := by decide +kernel
theorem d_L_merge_3 : decode b_L_merge 3 = .ok (.iload_n 1, 1) := by decide +kernel
theorem d_L_merge_4 : decode b_L_merge 4 = .ok (.invokevirtual 44, 3) := by decide +kernel
theorem d_L_merge_7 : decode b_L_merge 7 = .ok (.ifCond .eq 7, 3) := by decide +kernel
theorem d_L_merge_10 : decode b_L_merge 10 = .ok (.lconst 1, 1) := by decide +kernel
theorem d_L_merge_11 : decode b_L_merge 11 = .ok (.goto 4, 3) := by decide +kernel
theorem d_L_merge_14 : decode b_L_merge 14 = .ok (.lconst 0, 1) := by decide +kernel
theorem d_L_merge_15 : decode b_L_merge 15 = .ok (.lastore, 1) := by decide +kernel
theorem d_L_merge_16 : decode b_L_merge 16 = .ok (.goto 9, 3) := by decide +kernel
theorem d_L_merge_19 : decode b_L_merge 19 = .ok (.astore_n 3, 1) := by decide +kernel
theorem d_L_merge_20 : decode b_L_merge 20 = .ok (.iconst 1, 1) := by decide +kernel
theorem d_L_merge_21 : decode b_L_merge 21 = .ok (.ireturn, 1) := by decide +kernel
theorem d_L_merge_22 : decode b_L_merge 22 = .ok (.astore_n 3, 1) := by decide +kernel
theorem d_L_merge_23 : decode b_L_merge 23 = .ok (.iconst 2, 1) := by decide +kernel
theorem d_L_merge_24 : decode b_L_merge 24 = .ok (.ireturn, 1) := by decide +kernel
theorem d_L_merge_25 : decode b_L_merge 25 = .ok (.iconst 0, 1) := by decide +kernel
theorem d_L_merge_26 : decode b_L_merge 26 = .ok (.ireturn, 1) := by decide +kernel
theorem d_L_file_0 : decode b_L_file 0 = .ok (.aload_n 3, 1) := by decide +kernel
theorem d_L_file_1 : decode b_L_file 1 = .ok (.iconst 0, 1) := by decide +kernel
theorem d_L_file_2 : decode b_L_file 2 = .ok (.aload_n 0, 1) := by decide +kernel
theorem d_L_file_3 : decode b_L_file 3 = .ok (.iload_n 1, 1) := by decide +kernel
theorem d_L_file_4 : decode b_L_file 4 = .ok (.iload_n 2, 1) := by decide +kernel
theorem d_L_file_5 : decode b_L_file 5 = .ok (.invokevirtual 48, 3) := by decide +kernel
theorem d_L_file_8 : decode b_L_file 8 = .ok (.i2l, 1) := by decide +kernel
theorem d_L_file_9 : decode b_L_file 9 = .ok (.lastore, 1) := by decide +kernel
theorem d_L_file_10 : decode b_L_file 10 = .ok (.goto 7, 3) := by decide +kernel
theorem d_L_file_13 : decode b_L_file 13 = .ok (.astore 4, 2) := by decide +kernel
theorem d_L_file_15 : decode b_L_file 15 = .ok (.iconst 1, 1) := by decide +kernel
theorem d_L_file_16 : decode b_L_file 16 = .ok (.ireturn, 1) := by decide +kernel
theorem d_L_file_17 : decode b_L_file 17 = .ok (.iconst 0, 1) := by decide +kernel
theorem d_L_file_18 : decode b_L_file 18 = .ok (.ireturn, 1) := by decide +kernel
theorem d_L_octet_0 : decode b_L_octet 0 = .ok (.aload 4, 2) := by decide +kernel
theorem d_L_octet_2 : decode b_L_octet 2 = .ok (.iconst 0, 1) := by decide +kernel
theorem d_L_octet_3 : decode b_L_octet 3 = .ok (.aload_n 0, 1) := by decide +kernel
theorem d_L_octet_4 : decode b_L_octet 4 = .ok (.iload_n 1, 1) := by decide +kernel
theorem d_L_octet_5 : decode b_L_octet 5 = .ok (.iload_n 2, 1) := by decide +kernel
theorem d_L_octet_6 : decode b_L_octet 6 = .ok (.iload_n 3, 1) := by decide +kernel
theorem d_L_octet_7 : decode b_L_octet 7 = .ok (.invokevirtual 52, 3) := by decide +kernel
theorem d_L_octet_10 : decode b_L_octet 10 = .ok (.i2l, 1) := by decide +kernel
theorem d_L_octet_11 : decode b_L_octet 11 = .ok (.lastore, 1) := by decide +kernel
theorem d_L_octet_12 : decode b_L_octet 12 = .ok (.goto 7, 3) := by decide +kernel
theorem d_L_octet_15 : decode b_L_octet 15 = .ok (.astore 5, 2) := by decide +kernel
theorem d_L_octet_17 : decode b_L_octet 17 = .ok (.iconst 1, 1) := by decide +kernel
theorem d_L_octet_18 : decode b_L_octet 18 = .ok (.ireturn, 1) := by decide +kernel
theorem d_L_octet_19 : decode b_L_octet 19 = .ok (.iconst 0, 1) := by decide +kernel
theorem d_L_octet_20 : decode b_L_octet 20 = .ok (.ireturn, 1) := by decide +kernel
theorem d_L_spoil_0 : decode b_L_spoil 0 = .ok (.aload_n 0, 1) := by decide +kernel
theorem d_L_spoil_1 : decode b_L_spoil 1 = .ok (.iload_n 1, 1) := by decide +kernel
theorem d_L_spoil_2 : decode b_L_spoil 2 = .ok (.iload_n 2, 1) := by decide +kernel
theorem d_L_spoil_3 : decode b_L_spoil 3 = .ok (.iload_n 3, 1) := by decide +kernel
theorem d_L_spoil_4 : decode b_L_spoil 4 = .ok (.iload 4, 2) := by decide +kernel
theorem d_L_spoil_6 : decode b_L_spoil 6 = .ok (.invokevirtual 56, 3) := by decide +kernel
theorem d_L_spoil_9 : decode b_L_spoil 9 = .ok (.goto 7, 3) := by decide +kernel
theorem d_L_spoil_12 : decode b_L_spoil 12 = .ok (.astore 5, 2) := by decide +kernel
theorem d_L_spoil_14 : decode b_L_spoil 14 = .ok (.iconst 1, 1) := by decide +kernel
theorem d_L_spoil_15 : decode b_L_spoil 15 = .ok (.ireturn, 1) := by decide +kernel
theorem d_L_spoil_16 : decode b_L_spoil 16 = .ok (.iconst 0, 1) := by decide +kernel
theorem d_L_spoil_17 : decode b_L_spoil 17 = .ok (.ireturn, 1) := by decide +kernel
theorem d_L_law_0 : decode b_L_law 0 = .ok (.new 8, 3) := by decide +kernel
theorem d_L_law_3 : decode b_L_law 3 = .ok (.dup, 1) := by decide +kernel
theorem d_L_law_4 : decode b_L_law 4 = .ok (.invokespecial 60, 3) := by decide +kernel
theorem d_L_law_7 : decode b_L_law 7 = .ok (.astore_n 1, 1) := by decide +kernel
theorem d_L_law_8 : decode b_L_law 8 = .ok (.new 61, 3) := by decide +kernel
theorem d_L_law_11 : decode b_L_law 11 = .ok (.dup, 1) := by decide +kernel
theorem d_L_law_12 : decode b_L_law 12 = .ok (.invokespecial 63, 3) := by decide +kernel
theorem d_L_law_15 : decode b_L_law 15 = .ok (.astore_n 2, 1) := by decide +kernel
theorem d_L_law_16 : decode b_L_law 16 = .ok (.iconst 1, 1) := by decide +kernel
theorem d_L_law_17 : decode b_L_law 17 = .ok (.newarray .long, 2) := by decide +kernel
theorem d_L_law_19 : decode b_L_law 19 = .ok (.astore_n 3, 1) := by decide +kernel
theorem d_L_law_20 : decode b_L_law 20 = .ok (.iconst 0, 1) := by decide +kernel
theorem d_L_law_21 : decode b_L_law 21 = .ok (.istore 4, 2) := by decide +kernel
theorem d_L_law_23 : decode b_L_law 23 = .ok (.iload 4, 2) := by decide +kernel
theorem d_L_law_25 : decode b_L_law 25 = .ok (.aload_n 0, 1) := by decide +kernel
theorem d_L_law_26 : decode b_L_law 26 = .ok (.arraylength, 1) := by decide +kernel
theorem d_L_law_27 : decode b_L_law 27 = .ok (.bipush 7, 2) := by decide +kernel
theorem d_L_law_29 : decode b_L_law 29 = .ok (.isub, 1) := by decide +kernel
theorem d_L_law_30 : decode b_L_law 30 = .ok (.if_icmp .gt 968, 3) := by decide +kernel
theorem d_L_law_33 : decode b_L_law 33 = .ok (.aload_n 0, 1) := by decide +kernel
theorem d_L_law_34 : decode b_L_law 34 = .ok (.iload 4, 2) := by decide +kernel
theorem d_L_law_36 : decode b_L_law 36 = .ok (.iaload, 1) := by decide +kernel
theorem d_L_law_37 : decode b_L_law 37 = .ok (.bipush 15, 2) := by decide +kernel
theorem d_L_law_39 : decode b_L_law 39 = .ok (.iand, 1) := by decide +kernel
theorem d_L_law_40 : decode b_L_law 40 = .ok (.tableswitch 952 0 12 #[68, 206, 313, 412, 456, 523, 547, 583, 624, 687, 700, 768, 864], 68) := by decide +kernel
theorem d_L_law_108 : decode b_L_law 108 = .ok (.aload_n 1, 1) := by decide +kernel
theorem d_L_law_109 : decode b_L_law 109 = .ok (.aload_n 0, 1) := by decide +kernel
theorem d_L_law_110 : decode b_L_law 110 = .ok (.iload 4, 2) := by decide +kernel
theorem d_L_law_112 : decode b_L_law 112 = .ok (.iconst 1, 1) := by decide +kernel
theorem d_L_law_113 : decode b_L_law 113 = .ok (.iadd, 1) := by decide +kernel
theorem d_L_law_114 : decode b_L_law 114 = .ok (.iaload, 1) := by decide +kernel
theorem d_L_law_115 : decode b_L_law 115 = .ok (.i2l, 1) := by decide +kernel
theorem d_L_law_116 : decode b_L_law 116 = .ok (.bipush 32, 2) := by decide +kernel
theorem d_L_law_118 : decode b_L_law 118 = .ok (.lshl, 1) := by decide +kernel
theorem d_L_law_119 : decode b_L_law 119 = .ok (.aload_n 0, 1) := by decide +kernel
theorem d_L_law_120 : decode b_L_law 120 = .ok (.iload 4, 2) := by decide +kernel
theorem d_L_law_122 : decode b_L_law 122 = .ok (.iconst 2, 1) := by decide +kernel
theorem d_L_law_123 : decode b_L_law 123 = .ok (.iadd, 1) := by decide +kernel
theorem d_L_law_124 : decode b_L_law 124 = .ok (.iaload, 1) := by decide +kernel
theorem d_L_law_125 : decode b_L_law 125 = .ok (.i2l, 1) := by decide +kernel
theorem d_L_law_126 : decode b_L_law 126 = .ok (.ldc2_w 64, 3) := by decide +kernel
theorem d_L_law_129 : decode b_L_law 129 = .ok (.land, 1) := by decide +kernel
theorem d_L_law_130 : decode b_L_law 130 = .ok (.lor, 1) := by decide +kernel
theorem d_L_law_131 : decode b_L_law 131 = .ok (.aload_n 0, 1) := by decide +kernel
theorem d_L_law_132 : decode b_L_law 132 = .ok (.iload 4, 2) := by decide +kernel
theorem d_L_law_134 : decode b_L_law 134 = .ok (.iconst 3, 1) := by decide +kernel
theorem d_L_law_135 : decode b_L_law 135 = .ok (.iadd, 1) := by decide +kernel
theorem d_L_law_136 : decode b_L_law 136 = .ok (.iaload, 1) := by decide +kernel
theorem d_L_law_137 : decode b_L_law 137 = .ok (.aload_n 0, 1) := by decide +kernel
theorem d_L_law_138 : decode b_L_law 138 = .ok (.iload 4, 2) := by decide +kernel
theorem d_L_law_140 : decode b_L_law 140 = .ok (.iconst 4, 1) := by decide +kernel
theorem d_L_law_141 : decode b_L_law 141 = .ok (.iadd, 1) := by decide +kernel
theorem d_L_law_142 : decode b_L_law 142 = .ok (.iaload, 1) := by decide +kernel
theorem d_L_law_143 : decode b_L_law 143 = .ok (.i2l, 1) := by decide +kernel
theorem d_L_law_144 : decode b_L_law 144 = .ok (.bipush 32, 2) := by decide +kernel
theorem d_L_law_146 : decode b_L_law 146 = .ok (.lshl, 1) := by decide +kernel
theorem d_L_law_147 : decode b_L_law 147 = .ok (.aload_n 0, 1) := by decide +kernel
theorem d_L_law_148 : decode b_L_law 148 = .ok (.iload 4, 2) := by decide +kernel
theorem d_L_law_150 : decode b_L_law 150 = .ok (.iconst 5, 1) := by decide +kernel
theorem d_L_law_151 : decode b_L_law 151 = .ok (.iadd, 1) := by decide +kernel
theorem d_L_law_152 : decode b_L_law 152 = .ok (.iaload, 1) := by decide +kernel
theorem d_L_law_153 : decode b_L_law 153 = .ok (.i2l, 1) := by decide +kernel
theorem d_L_law_154 : decode b_L_law 154 = .ok (.ldc2_w 64, 3) := by decide +kernel
theorem d_L_law_157 : decode b_L_law 157 = .ok (.land, 1) := by decide +kernel
theorem d_L_law_158 : decode b_L_law 158 = .ok (.lor, 1) := by decide +kernel
theorem d_L_law_159 : decode b_L_law 159 = .ok (.aload_n 0, 1) := by decide +kernel
theorem d_L_law_160 : decode b_L_law 160 = .ok (.iload 4, 2) := by decide +kernel
theorem d_L_law_162 : decode b_L_law 162 = .ok (.bipush 6, 2) := by decide +kernel
theorem d_L_law_164 : decode b_L_law 164 = .ok (.iadd, 1) := by decide +kernel
theorem d_L_law_165 : decode b_L_law 165 = .ok (.iaload, 1) := by decide +kernel
theorem d_L_law_166 : decode b_L_law 166 = .ok (.invokestatic 66, 3) := by decide +kernel
theorem d_L_law_169 : decode b_L_law 169 = .ok (.istore 5, 2) := by decide +kernel
theorem d_L_law_171 : decode b_L_law 171 = .ok (.aload_n 2, 1) := by decide +kernel
theorem d_L_law_172 : decode b_L_law 172 = .ok (.aload_n 0, 1) := by decide +kernel
theorem d_L_law_173 : decode b_L_law 173 = .ok (.iload 4, 2) := by decide +kernel
theorem d_L_law_175 : decode b_L_law 175 = .ok (.iconst 1, 1) := by decide +kernel
theorem d_L_law_176 : decode b_L_law 176 = .ok (.iadd, 1) := by decide +kernel
theorem d_L_law_177 : decode b_L_law 177 = .ok (.iaload, 1) := by decide +kernel
theorem d_L_law_178 : decode b_L_law 178 = .ok (.i2l, 1) := by decide +kernel
theorem d_L_law_179 : decode b_L_law 179 = .ok (.bipush 32, 2) := by decide +kernel
theorem d_L_law_181 : decode b_L_law 181 = .ok (.lshl, 1) := by decide +kernel
theorem d_L_law_182 : decode b_L_law 182 = .ok (.aload_n 0, 1) := by decide +kernel
theorem d_L_law_183 : decode b_L_law 183 = .ok (.iload 4, 2) := by decide +kernel
theorem d_L_law_185 : decode b_L_law 185 = .ok (.iconst 2, 1) := by decide +kernel
theorem d_L_law_186 : decode b_L_law 186 = .ok (.iadd, 1) := by decide +kernel
theorem d_L_law_187 : decode b_L_law 187 = .ok (.iaload, 1) := by decide +kernel
theorem d_L_law_188 : decode b_L_law 188 = .ok (.i2l, 1) := by decide +kernel
theorem d_L_law_189 : decode b_L_law 189 = .ok (.ldc2_w 64, 3) := by decide +kernel
theorem d_L_law_192 : decode b_L_law 192 = .ok (.land, 1) := by decide +kernel
theorem d_L_law_193 : decode b_L_law 193 = .ok (.lor, 1) := by decide +kernel
theorem d_L_law_194 : decode b_L_law 194 = .ok (.aload_n 0, 1) := by decide +kernel
theorem d_L_law_195 : decode b_L_law 195 = .ok (.iload 4, 2) := by decide +kernel
theorem d_L_law_197 : decode b_L_law 197 = .ok (.iconst 3, 1) := by decide +kernel
theorem d_L_law_198 : decode b_L_law 198 = .ok (.iadd, 1) := by decide +kernel
theorem d_L_law_199 : decode b_L_law 199 = .ok (.iaload, 1) := by decide +kernel
theorem d_L_law_200 : decode b_L_law 200 = .ok (.aload_n 0, 1) := by decide +kernel
theorem d_L_law_201 : decode b_L_law 201 = .ok (.iload 4, 2) := by decide +kernel
theorem d_L_law_203 : decode b_L_law 203 = .ok (.iconst 4, 1) := by decide +kernel
theorem d_L_law_204 : decode b_L_law 204 = .ok (.iadd, 1) := by decide +kernel
theorem d_L_law_205 : decode b_L_law 205 = .ok (.iaload, 1) := by decide +kernel
theorem d_L_law_206 : decode b_L_law 206 = .ok (.i2l, 1) := by decide +kernel
theorem d_L_law_207 : decode b_L_law 207 = .ok (.bipush 32, 2) := by decide +kernel
theorem d_L_law_209 : decode b_L_law 209 = .ok (.lshl, 1) := by decide +kernel
theorem d_L_law_210 : decode b_L_law 210 = .ok (.aload_n 0, 1) := by decide +kernel
theorem d_L_law_211 : decode b_L_law 211 = .ok (.iload 4, 2) := by decide +kernel
theorem d_L_law_213 : decode b_L_law 213 = .ok (.iconst 5, 1) := by decide +kernel
theorem d_L_law_214 : decode b_L_law 214 = .ok (.iadd, 1) := by decide +kernel
theorem d_L_law_215 : decode b_L_law 215 = .ok (.iaload, 1) := by decide +kernel
theorem d_L_law_216 : decode b_L_law 216 = .ok (.i2l, 1) := by decide +kernel
theorem d_L_law_217 : decode b_L_law 217 = .ok (.ldc2_w 64, 3) := by decide +kernel
theorem d_L_law_220 : decode b_L_law 220 = .ok (.land, 1) := by decide +kernel
theorem d_L_law_221 : decode b_L_law 221 = .ok (.lor, 1) := by decide +kernel
theorem d_L_law_222 : decode b_L_law 222 = .ok (.aload_n 0, 1) := by decide +kernel
theorem d_L_law_223 : decode b_L_law 223 = .ok (.iload 4, 2) := by decide +kernel
theorem d_L_law_225 : decode b_L_law 225 = .ok (.bipush 6, 2) := by decide +kernel
theorem d_L_law_227 : decode b_L_law 227 = .ok (.iadd, 1) := by decide +kernel
theorem d_L_law_228 : decode b_L_law 228 = .ok (.iaload, 1) := by decide +kernel
theorem d_L_law_229 : decode b_L_law 229 = .ok (.invokevirtual 71, 3) := by decide +kernel
theorem d_L_law_232 : decode b_L_law 232 = .ok (.aload_n 2, 1) := by decide +kernel
theorem d_L_law_233 : decode b_L_law 233 = .ok (.invokevirtual 72, 3) := by decide +kernel
theorem d_L_law_236 : decode b_L_law 236 = .ok (.iload 5, 2) := by decide +kernel
theorem d_L_law_238 : decode b_L_law 238 = .ok (.if_icmp .eq 5, 3) := by decide +kernel
theorem d_L_law_241 : decode b_L_law 241 = .ok (.iconst 0, 1) := by decide +kernel
theorem d_L_law_242 : decode b_L_law 242 = .ok (.ireturn, 1) := by decide +kernel
theorem d_L_law_243 : decode b_L_law 243 = .ok (.goto 749, 3) := by decide +kernel
theorem d_L_law_246 : decode b_L_law 246 = .ok (.aload_n 1, 1) := by decide +kernel
theorem d_L_law_247 : decode b_L_law 247 = .ok (.aload_n 0, 1) := by decide +kernel
theorem d_L_law_248 : decode b_L_law 248 = .ok (.iload 4, 2) := by decide +kernel
theorem d_L_law_250 : decode b_L_law 250 = .ok (.iconst 1, 1) := by decide +kernel
theorem d_L_law_251 : decode b_L_law 251 = .ok (.iadd, 1) := by decide +kernel
theorem d_L_law_252 : decode b_L_law 252 = .ok (.iaload, 1) := by decide +kernel
theorem d_L_law_253 : decode b_L_law 253 = .ok (.i2l, 1) := by decide +kernel
theorem d_L_law_254 : decode b_L_law 254 = .ok (.bipush 32, 2) := by decide +kernel
theorem d_L_law_256 : decode b_L_law 256 = .ok (.lshl, 1) := by decide +kernel
theorem d_L_law_257 : decode b_L_law 257 = .ok (.aload_n 0, 1) := by decide +kernel
theorem d_L_law_258 : decode b_L_law 258 = .ok (.iload 4, 2) := by decide +kernel
theorem d_L_law_260 : decode b_L_law 260 = .ok (.iconst 2, 1) := by decide +kernel
theorem d_L_law_261 : decode b_L_law 261 = .ok (.iadd, 1) := by decide +kernel
theorem d_L_law_262 : decode b_L_law 262 = .ok (.iaload, 1) := by decide +kernel
theorem d_L_law_263 : decode b_L_law 263 = .ok (.i2l, 1) := by decide +kernel
theorem d_L_law_264 : decode b_L_law 264 = .ok (.ldc2_w 64, 3) := by decide +kernel
theorem d_L_law_267 : decode b_L_law 267 = .ok (.land, 1) := by decide +kernel
theorem d_L_law_268 : decode b_L_law 268 = .ok (.lor, 1) := by decide +kernel
theorem d_L_law_269 : decode b_L_law 269 = .ok (.aload_n 0, 1) := by decide +kernel
theorem d_L_law_270 : decode b_L_law 270 = .ok (.iload 4, 2) := by decide +kernel
theorem d_L_law_272 : decode b_L_law 272 = .ok (.iconst 3, 1) := by decide +kernel
theorem d_L_law_273 : decode b_L_law 273 = .ok (.iadd, 1) := by decide +kernel
theorem d_L_law_274 : decode b_L_law 274 = .ok (.iaload, 1) := by decide +kernel
theorem d_L_law_275 : decode b_L_law 275 = .ok (.aload_n 3, 1) := by decide +kernel
theorem d_L_law_276 : decode b_L_law 276 = .ok (.invokestatic 75, 3) := by decide +kernel
theorem d_L_law_279 : decode b_L_law 279 = .ok (.istore 5, 2) := by decide +kernel
theorem d_L_law_281 : decode b_L_law 281 = .ok (.aload_n 2, 1) := by decide +kernel
theorem d_L_law_282 : decode b_L_law 282 = .ok (.aload_n 0, 1) := by decide +kernel
theorem d_L_law_283 : decode b_L_law 283 = .ok (.iload 4, 2) := by decide +kernel
theorem d_L_law_285 : decode b_L_law 285 = .ok (.iconst 1, 1) := by decide +kernel
theorem d_L_law_286 : decode b_L_law 286 = .ok (.iadd, 1) := by decide +kernel
theorem d_L_law_287 : decode b_L_law 287 = .ok (.iaload, 1) := by decide +kernel
theorem d_L_law_288 : decode b_L_law 288 = .ok (.i2l, 1) := by decide +kernel
theorem d_L_law_289 : decode b_L_law 289 = .ok (.bipush 32, 2) := by decide +kernel
theorem d_L_law_291 : decode b_L_law 291 = .ok (.lshl, 1) := by decide +kernel
theorem d_L_law_292 : decode b_L_law 292 = .ok (.aload_n 0, 1) := by decide +kernel
theorem d_L_law_293 : decode b_L_law 293 = .ok (.iload 4, 2) := by decide +kernel
theorem d_L_law_295 : decode b_L_law 295 = .ok (.iconst 2, 1) := by decide +kernel
theorem d_L_law_296 : decode b_L_law 296 = .ok (.iadd, 1) := by decide +kernel
theorem d_L_law_297 : decode b_L_law 297 = .ok (.iaload, 1) := by decide +kernel
theorem d_L_law_298 : decode b_L_law 298 = .ok (.i2l, 1) := by decide +kernel
theorem d_L_law_299 : decode b_L_law 299 = .ok (.ldc2_w 64, 3) := by decide +kernel
theorem d_L_law_302 : decode b_L_law 302 = .ok (.land, 1) := by decide +kernel
theorem d_L_law_303 : decode b_L_law 303 = .ok (.lor, 1) := by decide +kernel
theorem d_L_law_304 : decode b_L_law 304 = .ok (.aload_n 0, 1) := by decide +kernel
theorem d_L_law_305 : decode b_L_law 305 = .ok (.iload 4, 2) := by decide +kernel
theorem d_L_law_307 : decode b_L_law 307 = .ok (.iconst 3, 1) := by decide +kernel
theorem d_L_law_308 : decode b_L_law 308 = .ok (.iadd, 1) := by decide +kernel
theorem d_L_law_309 : decode b_L_law 309 = .ok (.iaload, 1) := by decide +kernel
theorem d_L_law_310 : decode b_L_law 310 = .ok (.invokevirtual 78, 3) := by decide +kernel
theorem d_L_law_313 : decode b_L_law 313 = .ok (.istore 6, 2) := by decide +kernel
theorem d_L_law_315 : decode b_L_law 315 = .ok (.aload_n 2, 1) := by decide +kernel
theorem d_L_law_316 : decode b_L_law 316 = .ok (.invokevirtual 72, 3) := by decide +kernel
theorem d_L_law_319 : decode b_L_law 319 = .ok (.iload 5, 2) := by decide +kernel
theorem d_L_law_321 : decode b_L_law 321 = .ok (.if_icmp .eq 5, 3) := by decide +kernel
theorem d_L_law_324 : decode b_L_law 324 = .ok (.iconst 0, 1) := by decide +kernel
theorem d_L_law_325 : decode b_L_law 325 = .ok (.ireturn, 1) := by decide +kernel
theorem d_L_law_326 : decode b_L_law 326 = .ok (.iload 5, 2) := by decide +kernel
theorem d_L_law_328 : decode b_L_law 328 = .ok (.ifCond .ne 22, 3) := by decide +kernel
theorem d_L_law_331 : decode b_L_law 331 = .ok (.aload_n 3, 1) := by decide +kernel
theorem d_L_law_332 : decode b_L_law 332 = .ok (.iconst 0, 1) := by decide +kernel
theorem d_L_law_333 : decode b_L_law 333 = .ok (.laload, 1) := by decide +kernel
theorem d_L_law_334 : decode b_L_law 334 = .ok (.iload 6, 2) := by decide +kernel
theorem d_L_law_336 : decode b_L_law 336 = .ok (.ifCond .eq 7, 3) := by decide +kernel
theorem d_L_law_339 : decode b_L_law 339 = .ok (.lconst 1, 1) := by decide +kernel
theorem d_L_law_340 : decode b_L_law 340 = .ok (.goto 4, 3) := by decide +kernel
theorem d_L_law_343 : decode b_L_law 343 = .ok (.lconst 0, 1) := by decide +kernel
theorem d_L_law_344 : decode b_L_law 344 = .ok (.lcmp, 1) := by decide +kernel
theorem d_L_law_345 : decode b_L_law 345 = .ok (.ifCond .eq 5, 3) := by decide +kernel
theorem d_L_law_348 : decode b_L_law 348 = .ok (.iconst 0, 1) := by decide +kernel
theorem d_L_law_349 : decode b_L_law 349 = .ok (.ireturn, 1) := by decide +kernel
theorem d_L_law_350 : decode b_L_law 350 = .ok (.goto 642, 3) := by decide +kernel
theorem d_L_law_353 : decode b_L_law 353 = .ok (.aload_n 1, 1) := by decide +kernel
theorem d_L_law_354 : decode b_L_law 354 = .ok (.aload_n 0, 1) := by decide +kernel
theorem d_L_law_355 : decode b_L_law 355 = .ok (.iload 4, 2) := by decide +kernel
theorem d_L_law_357 : decode b_L_law 357 = .ok (.iconst 1, 1) := by decide +kernel
theorem d_L_law_358 : decode b_L_law 358 = .ok (.iadd, 1) := by decide +kernel
theorem d_L_law_359 : decode b_L_law 359 = .ok (.iaload, 1) := by decide +kernel
theorem d_L_law_360 : decode b_L_law 360 = .ok (.i2l, 1) := by decide +kernel
theorem d_L_law_361 : decode b_L_law 361 = .ok (.bipush 32, 2) := by decide +kernel
theorem d_L_law_363 : decode b_L_law 363 = .ok (.lshl, 1) := by decide +kernel
theorem d_L_law_364 : decode b_L_law 364 = .ok (.aload_n 0, 1) := by decide +kernel
theorem d_L_law_365 : decode b_L_law 365 = .ok (.iload 4, 2) := by decide +kernel
theorem d_L_law_367 : decode b_L_law 367 = .ok (.iconst 2, 1) := by decide +kernel
theorem d_L_law_368 : decode b_L_law 368 = .ok (.iadd, 1) := by decide +kernel
theorem d_L_law_369 : decode b_L_law 369 = .ok (.iaload, 1) := by decide +kernel
theorem d_L_law_370 : decode b_L_law 370 = .ok (.i2l, 1) := by decide +kernel
theorem d_L_law_371 : decode b_L_law 371 = .ok (.ldc2_w 64, 3) := by decide +kernel
theorem d_L_law_374 : decode b_L_law 374 = .ok (.land, 1) := by decide +kernel
theorem d_L_law_375 : decode b_L_law 375 = .ok (.lor, 1) := by decide +kernel
theorem d_L_law_376 : decode b_L_law 376 = .ok (.aload_n 0, 1) := by decide +kernel
theorem d_L_law_377 : decode b_L_law 377 = .ok (.iload 4, 2) := by decide +kernel
theorem d_L_law_379 : decode b_L_law 379 = .ok (.iconst 3, 1) := by decide +kernel
theorem d_L_law_380 : decode b_L_law 380 = .ok (.iadd, 1) := by decide +kernel
theorem d_L_law_381 : decode b_L_law 381 = .ok (.iaload, 1) := by decide +kernel
theorem d_L_law_382 : decode b_L_law 382 = .ok (.aload_n 3, 1) := by decide +kernel
theorem d_L_law_383 : decode b_L_law 383 = .ok (.invokestatic 79, 3) := by decide +kernel
theorem d_L_law_386 : decode b_L_law 386 = .ok (.istore 5, 2) := by decide +kernel
theorem d_L_law_388 : decode b_L_law 388 = .ok (.aload_n 2, 1) := by decide +kernel
theorem d_L_law_389 : decode b_L_law 389 = .ok (.aload_n 0, 1) := by decide +kernel
theorem d_L_law_390 : decode b_L_law 390 = .ok (.iload 4, 2) := by decide +kernel
theorem d_L_law_392 : decode b_L_law 392 = .ok (.iconst 1, 1) := by decide +kernel
theorem d_L_law_393 : decode b_L_law 393 = .ok (.iadd, 1) := by decide +kernel
theorem d_L_law_394 : decode b_L_law 394 = .ok (.iaload, 1) := by decide +kernel
theorem d_L_law_395 : decode b_L_law 395 = .ok (.i2l, 1) := by decide +kernel
theorem d_L_law_396 : decode b_L_law 396 = .ok (.bipush 32, 2) := by decide +kernel
theorem d_L_law_398 : decode b_L_law 398 = .ok (.lshl, 1) := by decide +kernel
theorem d_L_law_399 : decode b_L_law 399 = .ok (.aload_n 0, 1) := by decide +kernel
theorem d_L_law_400 : decode b_L_law 400 = .ok (.iload 4, 2) := by decide +kernel
theorem d_L_law_402 : decode b_L_law 402 = .ok (.iconst 2, 1) := by decide +kernel
theorem d_L_law_403 : decode b_L_law 403 = .ok (.iadd, 1) := by decide +kernel
theorem d_L_law_404 : decode b_L_law 404 = .ok (.iaload, 1) := by decide +kernel
theorem d_L_law_405 : decode b_L_law 405 = .ok (.i2l, 1) := by decide +kernel
theorem d_L_law_406 : decode b_L_law 406 = .ok (.ldc2_w 64, 3) := by decide +kernel
theorem d_L_law_409 : decode b_L_law 409 = .ok (.land, 1) := by decide +kernel
theorem d_L_law_410 : decode b_L_law 410 = .ok (.lor, 1) := by decide +kernel
theorem d_L_law_411 : decode b_L_law 411 = .ok (.aload_n 0, 1) := by decide +kernel
theorem d_L_law_412 : decode b_L_law 412 = .ok (.iload 4, 2) := by decide +kernel
theorem d_L_law_414 : decode b_L_law 414 = .ok (.iconst 3, 1) := by decide +kernel
theorem d_L_law_415 : decode b_L_law 415 = .ok (.iadd, 1) := by decide +kernel
theorem d_L_law_416 : decode b_L_law 416 = .ok (.iaload, 1) := by decide +kernel
theorem d_L_law_417 : decode b_L_law 417 = .ok (.invokevirtual 81, 3) := by decide +kernel
theorem d_L_law_420 : decode b_L_law 420 = .ok (.lstore 6, 2) := by decide +kernel
theorem d_L_law_422 : decode b_L_law 422 = .ok (.aload_n 2, 1) := by decide +kernel
theorem d_L_law_423 : decode b_L_law 423 = .ok (.invokevirtual 72, 3) := by decide +kernel
theorem d_L_law_426 : decode b_L_law 426 = .ok (.iload 5, 2) := by decide +kernel
theorem d_L_law_428 : decode b_L_law 428 = .ok (.if_icmp .eq 5, 3) := by decide +kernel
theorem d_L_law_431 : decode b_L_law 431 = .ok (.iconst 0, 1) := by decide +kernel
theorem d_L_law_432 : decode b_L_law 432 = .ok (.ireturn, 1) := by decide +kernel
theorem d_L_law_433 : decode b_L_law 433 = .ok (.iload 5, 2) := by decide +kernel
theorem d_L_law_435 : decode b_L_law 435 = .ok (.ifCond .ne 14, 3) := by decide +kernel
theorem d_L_law_438 : decode b_L_law 438 = .ok (.aload_n 3, 1) := by decide +kernel
theorem d_L_law_439 : decode b_L_law 439 = .ok (.iconst 0, 1) := by decide +kernel
theorem d_L_law_440 : decode b_L_law 440 = .ok (.laload, 1) := by decide +kernel
theorem d_L_law_441 : decode b_L_law 441 = .ok (.lload 6, 2) := by decide +kernel
theorem d_L_law_443 : decode b_L_law 443 = .ok (.lcmp, 1) := by decide +kernel
theorem d_L_law_444 : decode b_L_law 444 = .ok (.ifCond .eq 5, 3) := by decide +kernel
theorem d_L_law_447 : decode b_L_law 447 = .ok (.iconst 0, 1) := by decide +kernel
theorem d_L_law_448 : decode b_L_law 448 = .ok (.ireturn, 1) := by decide +kernel
theorem d_L_law_449 : decode b_L_law 449 = .ok (.goto 543, 3) := by decide +kernel
theorem d_L_law_452 : decode b_L_law 452 = .ok (.aload_n 1, 1) := by decide +kernel
theorem d_L_law_453 : decode b_L_law 453 = .ok (.aload_n 3, 1) := by decide +kernel
theorem d_L_law_454 : decode b_L_law 454 = .ok (.invokestatic 82, 3) := by decide +kernel
theorem d_L_law_457 : decode b_L_law 457 = .ok (.istore 5, 2) := by decide +kernel
theorem d_L_law_459 : decode b_L_law 459 = .ok (.aload_n 2, 1) := by decide +kernel
theorem d_L_law_460 : decode b_L_law 460 = .ok (.invokevirtual 85, 3) := by decide +kernel
theorem d_L_law_463 : decode b_L_law 463 = .ok (.istore 6, 2) := by decide +kernel
theorem d_L_law_465 : decode b_L_law 465 = .ok (.aload_n 2, 1) := by decide +kernel
theorem d_L_law_466 : decode b_L_law 466 = .ok (.invokevirtual 72, 3) := by decide +kernel
theorem d_L_law_469 : decode b_L_law 469 = .ok (.iload 5, 2) := by decide +kernel
theorem d_L_law_471 : decode b_L_law 471 = .ok (.if_icmp .eq 5, 3) := by decide +kernel
theorem d_L_law_474 : decode b_L_law 474 = .ok (.iconst 0, 1) := by decide +kernel
theorem d_L_law_475 : decode b_L_law 475 = .ok (.ireturn, 1) := by decide +kernel
theorem d_L_law_476 : decode b_L_law 476 = .ok (.iload 5, 2) := by decide +kernel
theorem d_L_law_478 : decode b_L_law 478 = .ok (.ifCond .ne 15, 3) := by decide +kernel
theorem d_L_law_481 : decode b_L_law 481 = .ok (.aload_n 3, 1) := by decide +kernel
theorem d_L_law_482 : decode b_L_law 482 = .ok (.iconst 0, 1) := by decide +kernel
theorem d_L_law_483 : decode b_L_law 483 = .ok (.laload, 1) := by decide +kernel
theorem d_L_law_484 : decode b_L_law 484 = .ok (.iload 6, 2) := by decide +kernel
theorem d_L_law_486 : decode b_L_law 486 = .ok (.i2l, 1) := by decide +kernel
theorem d_L_law_487 : decode b_L_law 487 = .ok (.lcmp, 1) := by decide +kernel
theorem d_L_law_488 : decode b_L_law 488 = .ok (.ifCond .eq 5, 3) := by decide +kernel
theorem d_L_law_491 : decode b_L_law 491 = .ok (.iconst 0, 1) := by decide +kernel
theorem d_L_law_492 : decode b_L_law 492 = .ok (.ireturn, 1) := by decide +kernel
theorem d_L_law_493 : decode b_L_law 493 = .ok (.goto 499, 3) := by decide +kernel
theorem d_L_law_496 : decode b_L_law 496 = .ok (.aload_n 1, 1) := by decide +kernel
theorem d_L_law_497 : decode b_L_law 497 = .ok (.aload_n 0, 1) := by decide +kernel
theorem d_L_law_498 : decode b_L_law 498 = .ok (.iload 4, 2) := by decide +kernel
theorem d_L_law_500 : decode b_L_law 500 = .ok (.iconst 1, 1) := by decide +kernel
theorem d_L_law_501 : decode b_L_law 501 = .ok (.iadd, 1) := by decide +kernel
theorem d_L_law_502 : decode b_L_law 502 = .ok (.iaload, 1) := by decide +kernel
theorem d_L_law_503 : decode b_L_law 503 = .ok (.aload_n 0, 1) := by decide +kernel
theorem d_L_law_504 : decode b_L_law 504 = .ok (.iload 4, 2) := by decide +kernel
theorem d_L_law_506 : decode b_L_law 506 = .ok (.iconst 2, 1) := by decide +kernel
theorem d_L_law_507 : decode b_L_law 507 = .ok (.iadd, 1) := by decide +kernel
theorem d_L_law_508 : decode b_L_law 508 = .ok (.iaload, 1) := by decide +kernel
theorem d_L_law_509 : decode b_L_law 509 = .ok (.aload_n 3, 1) := by decide +kernel
theorem d_L_law_510 : decode b_L_law 510 = .ok (.invokestatic 86, 3) := by decide +kernel
theorem d_L_law_513 : decode b_L_law 513 = .ok (.istore 5, 2) := by decide +kernel
theorem d_L_law_515 : decode b_L_law 515 = .ok (.aload_n 2, 1) := by decide +kernel
theorem d_L_law_516 : decode b_L_law 516 = .ok (.aload_n 0, 1) := by decide +kernel
theorem d_L_law_517 : decode b_L_law 517 = .ok (.iload 4, 2) := by decide +kernel
theorem d_L_law_519 : decode b_L_law 519 = .ok (.iconst 1, 1) := by decide +kernel
theorem d_L_law_520 : decode b_L_law 520 = .ok (.iadd, 1) := by decide +kernel
theorem d_L_law_521 : decode b_L_law 521 = .ok (.iaload, 1) := by decide +kernel
theorem d_L_law_522 : decode b_L_law 522 = .ok (.aload_n 0, 1) := by decide +kernel
theorem d_L_law_523 : decode b_L_law 523 = .ok (.iload 4, 2) := by decide +kernel
theorem d_L_law_525 : decode b_L_law 525 = .ok (.iconst 2, 1) := by decide +kernel
theorem d_L_law_526 : decode b_L_law 526 = .ok (.iadd, 1) := by decide +kernel
theorem d_L_law_527 : decode b_L_law 527 = .ok (.iaload, 1) := by decide +kernel
theorem d_L_law_528 : decode b_L_law 528 = .ok (.invokevirtual 89, 3) := by decide +kernel
theorem d_L_law_531 : decode b_L_law 531 = .ok (.lstore 6, 2) := by decide +kernel
theorem d_L_law_533 : decode b_L_law 533 = .ok (.aload_n 2, 1) := by decide +kernel
theorem d_L_law_534 : decode b_L_law 534 = .ok (.invokevirtual 72, 3) := by decide +kernel
theorem d_L_law_537 : decode b_L_law 537 = .ok (.iload 5, 2) := by decide +kernel
theorem d_L_law_539 : decode b_L_law 539 = .ok (.if_icmp .eq 5, 3) := by decide +kernel
theorem d_L_law_542 : decode b_L_law 542 = .ok (.iconst 0, 1) := by decide +kernel
theorem d_L_law_543 : decode b_L_law 543 = .ok (.ireturn, 1) := by decide +kernel
theorem d_L_law_544 : decode b_L_law 544 = .ok (.iload 5, 2) := by decide +kernel
theorem d_L_law_546 : decode b_L_law 546 = .ok (.ifCond .ne 14, 3) := by decide +kernel
theorem d_L_law_549 : decode b_L_law 549 = .ok (.aload_n 3, 1) := by decide +kernel
theorem d_L_law_550 : decode b_L_law 550 = .ok (.iconst 0, 1) := by decide +kernel
theorem d_L_law_551 : decode b_L_law 551 = .ok (.laload, 1) := by decide +kernel
theorem d_L_law_552 : decode b_L_law 552 = .ok (.lload 6, 2) := by decide +kernel
theorem d_L_law_554 : decode b_L_law 554 = .ok (.lcmp, 1) := by decide +kernel
theorem d_L_law_555 : decode b_L_law 555 = .ok (.ifCond .eq 5, 3) := by decide +kernel
theorem d_L_law_558 : decode b_L_law 558 = .ok (.iconst 0, 1) := by decide +kernel
theorem d_L_law_559 : decode b_L_law 559 = .ok (.ireturn, 1) := by decide +kernel
theorem d_L_law_560 : decode b_L_law 560 = .ok (.goto 432, 3) := by decide +kernel
theorem d_L_law_563 : decode b_L_law 563 = .ok (.aload_n 1, 1) := by decide +kernel
theorem d_L_law_564 : decode b_L_law 564 = .ok (.invokestatic 90, 3) := by decide +kernel
theorem d_L_law_567 : decode b_L_law 567 = .ok (.istore 5, 2) := by decide +kernel
theorem d_L_law_569 : decode b_L_law 569 = .ok (.aload_n 2, 1) := by decide +kernel
theorem d_L_law_570 : decode b_L_law 570 = .ok (.invokevirtual 93, 3) := by decide +kernel
theorem d_L_law_573 : decode b_L_law 573 = .ok (.aload_n 2, 1) := by decide +kernel
theorem d_L_law_574 : decode b_L_law 574 = .ok (.invokevirtual 72, 3) := by decide +kernel
theorem d_L_law_577 : decode b_L_law 577 = .ok (.iload 5, 2) := by decide +kernel
theorem d_L_law_579 : decode b_L_law 579 = .ok (.if_icmp .eq 5, 3) := by decide +kernel
theorem d_L_law_582 : decode b_L_law 582 = .ok (.iconst 0, 1) := by decide +kernel
theorem d_L_law_583 : decode b_L_law 583 = .ok (.ireturn, 1) := by decide +kernel
theorem d_L_law_584 : decode b_L_law 584 = .ok (.goto 408, 3) := by decide +kernel
theorem d_L_law_587 : decode b_L_law 587 = .ok (.aload_n 1, 1) := by decide +kernel
theorem d_L_law_588 : decode b_L_law 588 = .ok (.aload_n 0, 1) := by decide +kernel
theorem d_L_law_589 : decode b_L_law 589 = .ok (.iload 4, 2) := by decide +kernel
theorem d_L_law_591 : decode b_L_law 591 = .ok (.iconst 1, 1) := by decide +kernel
theorem d_L_law_592 : decode b_L_law 592 = .ok (.iadd, 1) := by decide +kernel
theorem d_L_law_593 : decode b_L_law 593 = .ok (.iaload, 1) := by decide +kernel
theorem d_L_law_594 : decode b_L_law 594 = .ok (.invokestatic 94, 3) := by decide +kernel
theorem d_L_law_597 : decode b_L_law 597 = .ok (.istore 5, 2) := by decide +kernel
theorem d_L_law_599 : decode b_L_law 599 = .ok (.aload_n 2, 1) := by decide +kernel
theorem d_L_law_600 : decode b_L_law 600 = .ok (.aload_n 0, 1) := by decide +kernel
theorem d_L_law_601 : decode b_L_law 601 = .ok (.iload 4, 2) := by decide +kernel
theorem d_L_law_603 : decode b_L_law 603 = .ok (.iconst 1, 1) := by decide +kernel
theorem d_L_law_604 : decode b_L_law 604 = .ok (.iadd, 1) := by decide +kernel
theorem d_L_law_605 : decode b_L_law 605 = .ok (.iaload, 1) := by decide +kernel
theorem d_L_law_606 : decode b_L_law 606 = .ok (.invokevirtual 97, 3) := by decide +kernel
theorem d_L_law_609 : decode b_L_law 609 = .ok (.aload_n 2, 1) := by decide +kernel
theorem d_L_law_610 : decode b_L_law 610 = .ok (.invokevirtual 72, 3) := by decide +kernel
theorem d_L_law_613 : decode b_L_law 613 = .ok (.iload 5, 2) := by decide +kernel
theorem d_L_law_615 : decode b_L_law 615 = .ok (.if_icmp .eq 5, 3) := by decide +kernel
theorem d_L_law_618 : decode b_L_law 618 = .ok (.iconst 0, 1) := by decide +kernel
theorem d_L_law_619 : decode b_L_law 619 = .ok (.ireturn, 1) := by decide +kernel
theorem d_L_law_620 : decode b_L_law 620 = .ok (.goto 372, 3) := by decide +kernel
theorem d_L_law_623 : decode b_L_law 623 = .ok (.aload_n 1, 1) := by decide +kernel
theorem d_L_law_624 : decode b_L_law 624 = .ok (.aload_n 0, 1) := by decide +kernel
theorem d_L_law_625 : decode b_L_law 625 = .ok (.iload 4, 2) := by decide +kernel
theorem d_L_law_627 : decode b_L_law 627 = .ok (.iconst 1, 1) := by decide +kernel
theorem d_L_law_628 : decode b_L_law 628 = .ok (.iadd, 1) := by decide +kernel
theorem d_L_law_629 : decode b_L_law 629 = .ok (.iaload, 1) := by decide +kernel
theorem d_L_law_630 : decode b_L_law 630 = .ok (.ifCond .eq 7, 3) := by decide +kernel
theorem d_L_law_633 : decode b_L_law 633 = .ok (.iconst 1, 1) := by decide +kernel
theorem d_L_law_634 : decode b_L_law 634 = .ok (.goto 4, 3) := by decide +kernel
theorem d_L_law_637 : decode b_L_law 637 = .ok (.iconst 0, 1) := by decide +kernel
theorem d_L_law_638 : decode b_L_law 638 = .ok (.invokevirtual 98, 3) := by decide +kernel
theorem d_L_law_641 : decode b_L_law 641 = .ok (.aload_n 2, 1) := by decide +kernel
theorem d_L_law_642 : decode b_L_law 642 = .ok (.aload_n 0, 1) := by decide +kernel
theorem d_L_law_643 : decode b_L_law 643 = .ok (.iload 4, 2) := by decide +kernel
theorem d_L_law_645 : decode b_L_law 645 = .ok (.iconst 1, 1) := by decide +kernel
theorem d_L_law_646 : decode b_L_law 646 = .ok (.iadd, 1) := by decide +kernel
theorem d_L_law_647 : decode b_L_law 647 = .ok (.iaload, 1) := by decide +kernel
theorem d_L_law_648 : decode b_L_law 648 = .ok (.ifCond .eq 7, 3) := by decide +kernel
theorem d_L_law_651 : decode b_L_law 651 = .ok (.iconst 1, 1) := by decide +kernel
theorem d_L_law_652 : decode b_L_law 652 = .ok (.goto 4, 3) := by decide +kernel
theorem d_L_law_655 : decode b_L_law 655 = .ok (.iconst 0, 1) := by decide +kernel
theorem d_L_law_656 : decode b_L_law 656 = .ok (.invokevirtual 102, 3) := by decide +kernel
theorem d_L_law_659 : decode b_L_law 659 = .ok (.if_icmp .eq 333, 3) := by decide +kernel
theorem d_L_law_662 : decode b_L_law 662 = .ok (.iconst 0, 1) := by decide +kernel
theorem d_L_law_663 : decode b_L_law 663 = .ok (.ireturn, 1) := by decide +kernel
theorem d_L_law_664 : decode b_L_law 664 = .ok (.aload_n 1, 1) := by decide +kernel
theorem d_L_law_665 : decode b_L_law 665 = .ok (.aload_n 0, 1) := by decide +kernel
theorem d_L_law_666 : decode b_L_law 666 = .ok (.iload 4, 2) := by decide +kernel
theorem d_L_law_668 : decode b_L_law 668 = .ok (.iconst 1, 1) := by decide +kernel
theorem d_L_law_669 : decode b_L_law 669 = .ok (.iadd, 1) := by decide +kernel
theorem d_L_law_670 : decode b_L_law 670 = .ok (.iaload, 1) := by decide +kernel
theorem d_L_law_671 : decode b_L_law 671 = .ok (.aload_n 3, 1) := by decide +kernel
theorem d_L_law_672 : decode b_L_law 672 = .ok (.invokestatic 103, 3) := by decide +kernel
theorem d_L_law_675 : decode b_L_law 675 = .ok (.istore 5, 2) := by decide +kernel
theorem d_L_law_677 : decode b_L_law 677 = .ok (.aload_n 2, 1) := by decide +kernel
theorem d_L_law_678 : decode b_L_law 678 = .ok (.aload_n 0, 1) := by decide +kernel
theorem d_L_law_679 : decode b_L_law 679 = .ok (.iload 4, 2) := by decide +kernel
theorem d_L_law_681 : decode b_L_law 681 = .ok (.iconst 1, 1) := by decide +kernel
theorem d_L_law_682 : decode b_L_law 682 = .ok (.iadd, 1) := by decide +kernel
theorem d_L_law_683 : decode b_L_law 683 = .ok (.iaload, 1) := by decide +kernel
theorem d_L_law_684 : decode b_L_law 684 = .ok (.invokevirtual 106, 3) := by decide +kernel
theorem d_L_law_687 : decode b_L_law 687 = .ok (.istore 6, 2) := by decide +kernel
theorem d_L_law_689 : decode b_L_law 689 = .ok (.aload_n 2, 1) := by decide +kernel
theorem d_L_law_690 : decode b_L_law 690 = .ok (.invokevirtual 72, 3) := by decide +kernel
theorem d_L_law_693 : decode b_L_law 693 = .ok (.iload 5, 2) := by decide +kernel
theorem d_L_law_695 : decode b_L_law 695 = .ok (.if_icmp .eq 5, 3) := by decide +kernel
theorem d_L_law_698 : decode b_L_law 698 = .ok (.iconst 0, 1) := by decide +kernel
theorem d_L_law_699 : decode b_L_law 699 = .ok (.ireturn, 1) := by decide +kernel
theorem d_L_law_700 : decode b_L_law 700 = .ok (.iload 5, 2) := by decide +kernel
theorem d_L_law_702 : decode b_L_law 702 = .ok (.ifCond .ne 22, 3) := by decide +kernel
theorem d_L_law_705 : decode b_L_law 705 = .ok (.aload_n 3, 1) := by decide +kernel
theorem d_L_law_706 : decode b_L_law 706 = .ok (.iconst 0, 1) := by decide +kernel
theorem d_L_law_707 : decode b_L_law 707 = .ok (.laload, 1) := by decide +kernel
theorem d_L_law_708 : decode b_L_law 708 = .ok (.iload 6, 2) := by decide +kernel
theorem d_L_law_710 : decode b_L_law 710 = .ok (.ifCond .eq 7, 3) := by decide +kernel
theorem d_L_law_713 : decode b_L_law 713 = .ok (.lconst 1, 1) := by decide +kernel
theorem d_L_law_714 : decode b_L_law 714 = .ok (.goto 4, 3) := by decide +kernel
theorem d_L_law_717 : decode b_L_law 717 = .ok (.lconst 0, 1) := by decide +kernel
theorem d_L_law_718 : decode b_L_law 718 = .ok (.lcmp, 1) := by decide +kernel
theorem d_L_law_719 : decode b_L_law 719 = .ok (.ifCond .eq 5, 3) := by decide +kernel
theorem d_L_law_722 : decode b_L_law 722 = .ok (.iconst 0, 1) := by decide +kernel
theorem d_L_law_723 : decode b_L_law 723 = .ok (.ireturn, 1) := by decide +kernel
theorem d_L_law_724 : decode b_L_law 724 = .ok (.goto 268, 3) := by decide +kernel
theorem d_L_law_727 : decode b_L_law 727 = .ok (.aload_n 1, 1) := by decide +kernel
theorem d_L_law_728 : decode b_L_law 728 = .ok (.invokevirtual 107, 3) := by decide +kernel
theorem d_L_law_731 : decode b_L_law 731 = .ok (.aload_n 2, 1) := by decide +kernel
theorem d_L_law_732 : decode b_L_law 732 = .ok (.invokevirtual 110, 3) := by decide +kernel
theorem d_L_law_735 : decode b_L_law 735 = .ok (.if_icmp .eq 257, 3) := by decide +kernel
theorem d_L_law_738 : decode b_L_law 738 = .ok (.iconst 0, 1) := by decide +kernel
theorem d_L_law_739 : decode b_L_law 739 = .ok (.ireturn, 1) := by decide +kernel
theorem d_L_law_740 : decode b_L_law 740 = .ok (.aload_n 1, 1) := by decide +kernel
theorem d_L_law_741 : decode b_L_law 741 = .ok (.aload_n 0, 1) := by decide +kernel
theorem d_L_law_742 : decode b_L_law 742 = .ok (.iload 4, 2) := by decide +kernel
theorem d_L_law_744 : decode b_L_law 744 = .ok (.iconst 1, 1) := by decide +kernel
theorem d_L_law_745 : decode b_L_law 745 = .ok (.iadd, 1) := by decide +kernel
theorem d_L_law_746 : decode b_L_law 746 = .ok (.iaload, 1) := by decide +kernel
theorem d_L_law_747 : decode b_L_law 747 = .ok (.aload_n 0, 1) := by decide +kernel
theorem d_L_law_748 : decode b_L_law 748 = .ok (.iload 4, 2) := by decide +kernel
theorem d_L_law_750 : decode b_L_law 750 = .ok (.iconst 2, 1) := by decide +kernel
theorem d_L_law_751 : decode b_L_law 751 = .ok (.iadd, 1) := by decide +kernel
theorem d_L_law_752 : decode b_L_law 752 = .ok (.iaload, 1) := by decide +kernel
theorem d_L_law_753 : decode b_L_law 753 = .ok (.aload_n 3, 1) := by decide +kernel
theorem d_L_law_754 : decode b_L_law 754 = .ok (.invokestatic 111, 3) := by decide +kernel
theorem d_L_law_757 : decode b_L_law 757 = .ok (.istore 5, 2) := by decide +kernel
theorem d_L_law_759 : decode b_L_law 759 = .ok (.aload_n 2, 1) := by decide +kernel
theorem d_L_law_760 : decode b_L_law 760 = .ok (.aload_n 0, 1) := by decide +kernel
theorem d_L_law_761 : decode b_L_law 761 = .ok (.iload 4, 2) := by decide +kernel
theorem d_L_law_763 : decode b_L_law 763 = .ok (.iconst 1, 1) := by decide +kernel
theorem d_L_law_764 : decode b_L_law 764 = .ok (.iadd, 1) := by decide +kernel
theorem d_L_law_765 : decode b_L_law 765 = .ok (.iaload, 1) := by decide +kernel
theorem d_L_law_766 : decode b_L_law 766 = .ok (.aload_n 0, 1) := by decide +kernel
theorem d_L_law_767 : decode b_L_law 767 = .ok (.iload 4, 2) := by decide +kernel
theorem d_L_law_769 : decode b_L_law 769 = .ok (.iconst 2, 1) := by decide +kernel
theorem d_L_law_770 : decode b_L_law 770 = .ok (.iadd, 1) := by decide +kernel
theorem d_L_law_771 : decode b_L_law 771 = .ok (.iaload, 1) := by decide +kernel
theorem d_L_law_772 : decode b_L_law 772 = .ok (.invokevirtual 113, 3) := by decide +kernel
theorem d_L_law_775 : decode b_L_law 775 = .ok (.istore 6, 2) := by decide +kernel
theorem d_L_law_777 : decode b_L_law 777 = .ok (.aload_n 2, 1) := by decide +kernel
theorem d_L_law_778 : decode b_L_law 778 = .ok (.invokevirtual 72, 3) := by decide +kernel
theorem d_L_law_781 : decode b_L_law 781 = .ok (.iload 5, 2) := by decide +kernel
theorem d_L_law_783 : decode b_L_law 783 = .ok (.if_icmp .eq 5, 3) := by decide +kernel
theorem d_L_law_786 : decode b_L_law 786 = .ok (.iconst 0, 1) := by decide +kernel
theorem d_L_law_787 : decode b_L_law 787 = .ok (.ireturn, 1) := by decide +kernel
theorem d_L_law_788 : decode b_L_law 788 = .ok (.iload 5, 2) := by decide +kernel
theorem d_L_law_790 : decode b_L_law 790 = .ok (.ifCond .ne 15, 3) := by decide +kernel
theorem d_L_law_793 : decode b_L_law 793 = .ok (.aload_n 3, 1) := by decide +kernel
theorem d_L_law_794 : decode b_L_law 794 = .ok (.iconst 0, 1) := by decide +kernel
theorem d_L_law_795 : decode b_L_law 795 = .ok (.laload, 1) := by decide +kernel
theorem d_L_law_796 : decode b_L_law 796 = .ok (.iload 6, 2) := by decide +kernel
theorem d_L_law_798 : decode b_L_law 798 = .ok (.i2l, 1) := by decide +kernel
theorem d_L_law_799 : decode b_L_law 799 = .ok (.lcmp, 1) := by decide +kernel
theorem d_L_law_800 : decode b_L_law 800 = .ok (.ifCond .eq 5, 3) := by decide +kernel
theorem d_L_law_803 : decode b_L_law 803 = .ok (.iconst 0, 1) := by decide +kernel
theorem d_L_law_804 : decode b_L_law 804 = .ok (.ireturn, 1) := by decide +kernel
theorem d_L_law_805 : decode b_L_law 805 = .ok (.goto 187, 3) := by decide +kernel
theorem d_L_law_808 : decode b_L_law 808 = .ok (.aload_n 1, 1) := by decide +kernel
theorem d_L_law_809 : decode b_L_law 809 = .ok (.aload_n 0, 1) := by decide +kernel
theorem d_L_law_810 : decode b_L_law 810 = .ok (.iload 4, 2) := by decide +kernel
theorem d_L_law_812 : decode b_L_law 812 = .ok (.iconst 1, 1) := by decide +kernel
theorem d_L_law_813 : decode b_L_law 813 = .ok (.iadd, 1) := by decide +kernel
theorem d_L_law_814 : decode b_L_law 814 = .ok (.iaload, 1) := by decide +kernel
theorem d_L_law_815 : decode b_L_law 815 = .ok (.aload_n 0, 1) := by decide +kernel
theorem d_L_law_816 : decode b_L_law 816 = .ok (.iload 4, 2) := by decide +kernel
theorem d_L_law_818 : decode b_L_law 818 = .ok (.iconst 2, 1) := by decide +kernel
theorem d_L_law_819 : decode b_L_law 819 = .ok (.iadd, 1) := by decide +kernel
theorem d_L_law_820 : decode b_L_law 820 = .ok (.iaload, 1) := by decide +kernel
theorem d_L_law_821 : decode b_L_law 821 = .ok (.aload_n 0, 1) := by decide +kernel
theorem d_L_law_822 : decode b_L_law 822 = .ok (.iload 4, 2) := by decide +kernel
theorem d_L_law_824 : decode b_L_law 824 = .ok (.iconst 3, 1) := by decide +kernel
theorem d_L_law_825 : decode b_L_law 825 = .ok (.iadd, 1) := by decide +kernel
theorem d_L_law_826 : decode b_L_law 826 = .ok (.iaload, 1) := by decide +kernel
theorem d_L_law_827 : decode b_L_law 827 = .ok (.ifCond .eq 7, 3) := by decide +kernel
theorem d_L_law_830 : decode b_L_law 830 = .ok (.iconst 1, 1) := by decide +kernel
theorem d_L_law_831 : decode b_L_law 831 = .ok (.goto 4, 3) := by decide +kernel
theorem d_L_law_834 : decode b_L_law 834 = .ok (.iconst 0, 1) := by decide +kernel
theorem d_L_law_835 : decode b_L_law 835 = .ok (.aload_n 3, 1) := by decide +kernel
theorem d_L_law_836 : decode b_L_law 836 = .ok (.invokestatic 114, 3) := by decide +kernel
theorem d_L_law_839 : decode b_L_law 839 = .ok (.istore 5, 2) := by decide +kernel
theorem d_L_law_841 : decode b_L_law 841 = .ok (.aload_n 2, 1) := by decide +kernel
theorem d_L_law_842 : decode b_L_law 842 = .ok (.aload_n 0, 1) := by decide +kernel
theorem d_L_law_843 : decode b_L_law 843 = .ok (.iload 4, 2) := by decide +kernel
theorem d_L_law_845 : decode b_L_law 845 = .ok (.iconst 1, 1) := by decide +kernel
theorem d_L_law_846 : decode b_L_law 846 = .ok (.iadd, 1) := by decide +kernel
theorem d_L_law_847 : decode b_L_law 847 = .ok (.iaload, 1) := by decide +kernel
theorem d_L_law_848 : decode b_L_law 848 = .ok (.aload_n 0, 1) := by decide +kernel
theorem d_L_law_849 : decode b_L_law 849 = .ok (.iload 4, 2) := by decide +kernel
theorem d_L_law_851 : decode b_L_law 851 = .ok (.iconst 2, 1) := by decide +kernel
theorem d_L_law_852 : decode b_L_law 852 = .ok (.iadd, 1) := by decide +kernel
theorem d_L_law_853 : decode b_L_law 853 = .ok (.iaload, 1) := by decide +kernel
theorem d_L_law_854 : decode b_L_law 854 = .ok (.aload_n 0, 1) := by decide +kernel
theorem d_L_law_855 : decode b_L_law 855 = .ok (.iload 4, 2) := by decide +kernel
theorem d_L_law_857 : decode b_L_law 857 = .ok (.iconst 3, 1) := by decide +kernel
theorem d_L_law_858 : decode b_L_law 858 = .ok (.iadd, 1) := by decide +kernel
theorem d_L_law_859 : decode b_L_law 859 = .ok (.iaload, 1) := by decide +kernel
theorem d_L_law_860 : decode b_L_law 860 = .ok (.ifCond .eq 7, 3) := by decide +kernel
theorem d_L_law_863 : decode b_L_law 863 = .ok (.iconst 1, 1) := by decide +kernel
theorem d_L_law_864 : decode b_L_law 864 = .ok (.goto 4, 3) := by decide +kernel
theorem d_L_law_867 : decode b_L_law 867 = .ok (.iconst 0, 1) := by decide +kernel
theorem d_L_law_868 : decode b_L_law 868 = .ok (.invokevirtual 117, 3) := by decide +kernel
theorem d_L_law_871 : decode b_L_law 871 = .ok (.istore 6, 2) := by decide +kernel
theorem d_L_law_873 : decode b_L_law 873 = .ok (.aload_n 2, 1) := by decide +kernel
theorem d_L_law_874 : decode b_L_law 874 = .ok (.invokevirtual 72, 3) := by decide +kernel
theorem d_L_law_877 : decode b_L_law 877 = .ok (.iload 5, 2) := by decide +kernel
theorem d_L_law_879 : decode b_L_law 879 = .ok (.if_icmp .eq 5, 3) := by decide +kernel
theorem d_L_law_882 : decode b_L_law 882 = .ok (.iconst 0, 1) := by decide +kernel
theorem d_L_law_883 : decode b_L_law 883 = .ok (.ireturn, 1) := by decide +kernel
theorem d_L_law_884 : decode b_L_law 884 = .ok (.iload 5, 2) := by decide +kernel
theorem d_L_law_886 : decode b_L_law 886 = .ok (.ifCond .ne 15, 3) := by decide +kernel
theorem d_L_law_889 : decode b_L_law 889 = .ok (.aload_n 3, 1) := by decide +kernel
theorem d_L_law_890 : decode b_L_law 890 = .ok (.iconst 0, 1) := by decide +kernel
theorem d_L_law_891 : decode b_L_law 891 = .ok (.laload, 1) := by decide +kernel
theorem d_L_law_892 : decode b_L_law 892 = .ok (.iload 6, 2) := by decide +kernel
theorem d_L_law_894 : decode b_L_law 894 = .ok (.i2l, 1) := by decide +kernel
theorem d_L_law_895 : decode b_L_law 895 = .ok (.lcmp, 1) := by decide +kernel
theorem d_L_law_896 : decode b_L_law 896 = .ok (.ifCond .eq 5, 3) := by decide +kernel
theorem d_L_law_899 : decode b_L_law 899 = .ok (.iconst 0, 1) := by decide +kernel
theorem d_L_law_900 : decode b_L_law 900 = .ok (.ireturn, 1) := by decide +kernel
theorem d_L_law_901 : decode b_L_law 901 = .ok (.goto 91, 3) := by decide +kernel
theorem d_L_law_904 : decode b_L_law 904 = .ok (.aload_n 1, 1) := by decide +kernel
theorem d_L_law_905 : decode b_L_law 905 = .ok (.aload_n 0, 1) := by decide +kernel
theorem d_L_law_906 : decode b_L_law 906 = .ok (.iload 4, 2) := by decide +kernel
theorem d_L_law_908 : decode b_L_law 908 = .ok (.iconst 1, 1) := by decide +kernel
theorem d_L_law_909 : decode b_L_law 909 = .ok (.iadd, 1) := by decide +kernel
theorem d_L_law_910 : decode b_L_law 910 = .ok (.iaload, 1) := by decide +kernel
theorem d_L_law_911 : decode b_L_law 911 = .ok (.aload_n 0, 1) := by decide +kernel
theorem d_L_law_912 : decode b_L_law 912 = .ok (.iload 4, 2) := by decide +kernel
theorem d_L_law_914 : decode b_L_law 914 = .ok (.iconst 2, 1) := by decide +kernel
theorem d_L_law_915 : decode b_L_law 915 = .ok (.iadd, 1) := by decide +kernel
theorem d_L_law_916 : decode b_L_law 916 = .ok (.iaload, 1) := by decide +kernel
theorem d_L_law_917 : decode b_L_law 917 = .ok (.aload_n 0, 1) := by decide +kernel
theorem d_L_law_918 : decode b_L_law 918 = .ok (.iload 4, 2) := by decide +kernel
theorem d_L_law_920 : decode b_L_law 920 = .ok (.iconst 3, 1) := by decide +kernel
theorem d_L_law_921 : decode b_L_law 921 = .ok (.iadd, 1) := by decide +kernel
theorem d_L_law_922 : decode b_L_law 922 = .ok (.iaload, 1) := by decide +kernel
theorem d_L_law_923 : decode b_L_law 923 = .ok (.ifCond .eq 7, 3) := by decide +kernel
theorem d_L_law_926 : decode b_L_law 926 = .ok (.iconst 1, 1) := by decide +kernel
theorem d_L_law_927 : decode b_L_law 927 = .ok (.goto 4, 3) := by decide +kernel
theorem d_L_law_930 : decode b_L_law 930 = .ok (.iconst 0, 1) := by decide +kernel
theorem d_L_law_931 : decode b_L_law 931 = .ok (.aload_n 0, 1) := by decide +kernel
theorem d_L_law_932 : decode b_L_law 932 = .ok (.iload 4, 2) := by decide +kernel
theorem d_L_law_934 : decode b_L_law 934 = .ok (.iconst 4, 1) := by decide +kernel
theorem d_L_law_935 : decode b_L_law 935 = .ok (.iadd, 1) := by decide +kernel
theorem d_L_law_936 : decode b_L_law 936 = .ok (.iaload, 1) := by decide +kernel
theorem d_L_law_937 : decode b_L_law 937 = .ok (.invokestatic 118, 3) := by decide +kernel
theorem d_L_law_940 : decode b_L_law 940 = .ok (.istore 5, 2) := by decide +kernel
theorem d_L_law_942 : decode b_L_law 942 = .ok (.aload_n 2, 1) := by decide +kernel
theorem d_L_law_943 : decode b_L_law 943 = .ok (.aload_n 0, 1) := by decide +kernel
theorem d_L_law_944 : decode b_L_law 944 = .ok (.iload 4, 2) := by decide +kernel
theorem d_L_law_946 : decode b_L_law 946 = .ok (.iconst 1, 1) := by decide +kernel
theorem d_L_law_947 : decode b_L_law 947 = .ok (.iadd, 1) := by decide +kernel
theorem d_L_law_948 : decode b_L_law 948 = .ok (.iaload, 1) := by decide +kernel
theorem d_L_law_949 : decode b_L_law 949 = .ok (.aload_n 0, 1) := by decide +kernel
theorem d_L_law_950 : decode b_L_law 950 = .ok (.iload 4, 2) := by decide +kernel
theorem d_L_law_952 : decode b_L_law 952 = .ok (.iconst 2, 1) := by decide +kernel
theorem d_L_law_953 : decode b_L_law 953 = .ok (.iadd, 1) := by decide +kernel
theorem d_L_law_954 : decode b_L_law 954 = .ok (.iaload, 1) := by decide +kernel
theorem d_L_law_955 : decode b_L_law 955 = .ok (.aload_n 0, 1) := by decide +kernel
theorem d_L_law_956 : decode b_L_law 956 = .ok (.iload 4, 2) := by decide +kernel
theorem d_L_law_958 : decode b_L_law 958 = .ok (.iconst 3, 1) := by decide +kernel
theorem d_L_law_959 : decode b_L_law 959 = .ok (.iadd, 1) := by decide +kernel
theorem d_L_law_960 : decode b_L_law 960 = .ok (.iaload, 1) := by decide +kernel
theorem d_L_law_961 : decode b_L_law 961 = .ok (.ifCond .eq 7, 3) := by decide +kernel
theorem d_L_law_964 : decode b_L_law 964 = .ok (.iconst 1, 1) := by decide +kernel
theorem d_L_law_965 : decode b_L_law 965 = .ok (.goto 4, 3) := by decide +kernel
theorem d_L_law_968 : decode b_L_law 968 = .ok (.iconst 0, 1) := by decide +kernel
theorem d_L_law_969 : decode b_L_law 969 = .ok (.aload_n 0, 1) := by decide +kernel
theorem d_L_law_970 : decode b_L_law 970 = .ok (.iload 4, 2) := by decide +kernel
theorem d_L_law_972 : decode b_L_law 972 = .ok (.iconst 4, 1) := by decide +kernel
theorem d_L_law_973 : decode b_L_law 973 = .ok (.iadd, 1) := by decide +kernel
theorem d_L_law_974 : decode b_L_law 974 = .ok (.iaload, 1) := by decide +kernel
theorem d_L_law_975 : decode b_L_law 975 = .ok (.invokevirtual 121, 3) := by decide +kernel
theorem d_L_law_978 : decode b_L_law 978 = .ok (.aload_n 2, 1) := by decide +kernel
theorem d_L_law_979 : decode b_L_law 979 = .ok (.invokevirtual 72, 3) := by decide +kernel
theorem d_L_law_982 : decode b_L_law 982 = .ok (.iload 5, 2) := by decide +kernel
theorem d_L_law_984 : decode b_L_law 984 = .ok (.if_icmp .eq 5, 3) := by decide +kernel
theorem d_L_law_987 : decode b_L_law 987 = .ok (.iconst 0, 1) := by decide +kernel
theorem d_L_law_988 : decode b_L_law 988 = .ok (.ireturn, 1) := by decide +kernel
theorem d_L_law_989 : decode b_L_law 989 = .ok (.goto 3, 3) := by decide +kernel
theorem d_L_law_992 : decode b_L_law 992 = .ok (.iinc 4 7, 3) := by decide +kernel
theorem d_L_law_995 : decode b_L_law 995 = .ok (.goto (-972), 3) := by decide +kernel
theorem d_L_law_998 : decode b_L_law 998 = .ok (.iconst 1, 1) := by decide +kernel
theorem d_L_law_999 : decode b_L_law 999 = .ok (.ireturn, 1) := by decide +kernel
