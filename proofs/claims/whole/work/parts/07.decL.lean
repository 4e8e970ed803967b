theorem dL_append_0 : uD 2 cL_append 0 (.aload 6) 2 := ⟨by decide +kernel, rfl⟩
theorem dL_append_2 : uD 1 cL_append 2 (.iconst 0) 3 := ⟨by decide +kernel, rfl⟩
theorem dL_append_3 : uD 1 cL_append 3 (.aload_n 0) 4 := ⟨by decide +kernel, rfl⟩
theorem dL_append_4 : uD 1 cL_append 4 (.iload_n 1) 5 := ⟨by decide +kernel, rfl⟩
theorem dL_append_5 : uD 1 cL_append 5 (.iload_n 2) 6 := ⟨by decide +kernel, rfl⟩
theorem dL_append_6 : uD 1 cL_append 6 (.iload_n 3) 7 := ⟨by decide +kernel, rfl⟩
theorem dL_append_7 : uD 2 cL_append 7 (.iload 4) 9 := ⟨by decide +kernel, rfl⟩
theorem dL_append_9 : uD 2 cL_append 9 (.iload 5) 11 := ⟨by decide +kernel, rfl⟩
theorem dL_append_11 : uD 3 cL_append 11 (.invokevirtual 7) 14 := ⟨by decide +kernel, rfl⟩
theorem dL_append_14 : uD 1 cL_append 14 (.i2l) 15 := ⟨by decide +kernel, rfl⟩
theorem dL_append_15 : uD 1 cL_append 15 (.lastore) 16 := ⟨by decide +kernel, rfl⟩
theorem dL_append_16 : uJ cL_append 16 (fun o => .goto o) 23 19 := ⟨7, by decide +kernel, by decide, rfl⟩
theorem dL_append_19 : uD 2 cL_append 19 (.astore 7) 21 := ⟨by decide +kernel, rfl⟩
theorem dL_append_21 : uD 1 cL_append 21 (.iconst 1) 22 := ⟨by decide +kernel, rfl⟩
theorem dL_append_22 : uD 1 cL_append 22 (.ireturn) 23 := ⟨by decide +kernel, rfl⟩
theorem dL_append_23 : uD 1 cL_append 23 (.iconst 0) 24 := ⟨by decide +kernel, rfl⟩
theorem dL_append_24 : uD 1 cL_append 24 (.ireturn) 25 := ⟨by decide +kernel, rfl⟩
theorem dL_truncate_0 : uD 1 cL_truncate 0 (.aload_n 2) 1 := ⟨by decide +kernel, rfl⟩
theorem dL_truncate_1 : uD 1 cL_truncate 1 (.iconst 0) 2 := ⟨by decide +kernel, rfl⟩
theorem dL_truncate_2 : uD 1 cL_truncate 2 (.aload_n 0) 3 := ⟨by decide +kernel, rfl⟩
theorem dL_truncate_3 : uD 1 cL_truncate 3 (.iload_n 1) 4 := ⟨by decide +kernel, rfl⟩
theorem dL_truncate_4 : uD 3 cL_truncate 4 (.invokevirtual 15) 7 := ⟨by decide +kernel, rfl⟩
theorem dL_truncate_7 : uD 1 cL_truncate 7 (.i2l) 8 := ⟨by decide +kernel, rfl⟩
theorem dL_truncate_8 : uD 1 cL_truncate 8 (.lastore) 9 := ⟨by decide +kernel, rfl⟩
theorem dL_truncate_9 : uJ cL_truncate 9 (fun o => .goto o) 15 12 := ⟨6, by decide +kernel, by decide, rfl⟩
theorem dL_truncate_12 : uD 1 cL_truncate 12 (.astore_n 3) 13 := ⟨by decide +kernel, rfl⟩
theorem dL_truncate_13 : uD 1 cL_truncate 13 (.iconst 1) 14 := ⟨by decide +kernel, rfl⟩
theorem dL_truncate_14 : uD 1 cL_truncate 14 (.ireturn) 15 := ⟨by decide +kernel, rfl⟩
theorem dL_truncate_15 : uD 1 cL_truncate 15 (.iconst 0) 16 := ⟨by decide +kernel, rfl⟩
theorem dL_truncate_16 : uD 1 cL_truncate 16 (.ireturn) 17 := ⟨by decide +kernel, rfl⟩
theorem dL_load_0 : uD 1 cL_load 0 (.aload_n 1) 1 := ⟨by decide +kernel, rfl⟩
theorem dL_load_1 : uD 1 cL_load 1 (.iconst 0) 2 := ⟨by decide +kernel, rfl⟩
theorem dL_load_2 : uD 1 cL_load 2 (.aload_n 0) 3 := ⟨by decide +kernel, rfl⟩
theorem dL_load_3 : uD 3 cL_load 3 (.invokevirtual 21) 6 := ⟨by decide +kernel, rfl⟩
theorem dL_load_6 : uD 1 cL_load 6 (.i2l) 7 := ⟨by decide +kernel, rfl⟩
theorem dL_load_7 : uD 1 cL_load 7 (.lastore) 8 := ⟨by decide +kernel, rfl⟩
theorem dL_load_8 : uJ cL_load 8 (fun o => .goto o) 14 11 := ⟨6, by decide +kernel, by decide, rfl⟩
theorem dL_load_11 : uD 1 cL_load 11 (.astore_n 2) 12 := ⟨by decide +kernel, rfl⟩
theorem dL_load_12 : uD 1 cL_load 12 (.iconst 1) 13 := ⟨by decide +kernel, rfl⟩
theorem dL_load_13 : uD 1 cL_load 13 (.ireturn) 14 := ⟨by decide +kernel, rfl⟩
theorem dL_load_14 : uD 1 cL_load 14 (.iconst 0) 15 := ⟨by decide +kernel, rfl⟩
theorem dL_load_15 : uD 1 cL_load 15 (.ireturn) 16 := ⟨by decide +kernel, rfl⟩
theorem dL_report_0 : uD 1 cL_report 0 (.aload_n 2) 1 := ⟨by decide +kernel, rfl⟩
theorem dL_report_1 : uD 1 cL_report 1 (.iconst 0) 2 := ⟨by decide +kernel, rfl⟩
theorem dL_report_2 : uD 1 cL_report 2 (.aload_n 0) 3 := ⟨by decide +kernel, rfl⟩
theorem dL_report_3 : uD 1 cL_report 3 (.iload_n 1) 4 := ⟨by decide +kernel, rfl⟩
theorem dL_report_4 : uD 3 cL_report 4 (.invokevirtual 27) 7 := ⟨by decide +kernel, rfl⟩
theorem dL_report_7 : uD 1 cL_report 7 (.i2l) 8 := ⟨by decide +kernel, rfl⟩
theorem dL_report_8 : uD 1 cL_report 8 (.lastore) 9 := ⟨by decide +kernel, rfl⟩
theorem dL_report_9 : uJ cL_report 9 (fun o => .goto o) 15 12 := ⟨6, by decide +kernel, by decide, rfl⟩
theorem dL_report_12 : uD 1 cL_report 12 (.astore_n 3) 13 := ⟨by decide +kernel, rfl⟩
theorem dL_report_13 : uD 1 cL_report 13 (.iconst 1) 14 := ⟨by decide +kernel, rfl⟩
theorem dL_report_14 : uD 1 cL_report 14 (.ireturn) 15 := ⟨by decide +kernel, rfl⟩
theorem dL_report_15 : uD 1 cL_report 15 (.iconst 0) 16 := ⟨by decide +kernel, rfl⟩
theorem dL_report_16 : uD 1 cL_report 16 (.ireturn) 17 := ⟨by decide +kernel, rfl⟩
theorem dL_device_0 : uD 1 cL_device 0 (.aload_n 3) 1 := ⟨by decide +kernel, rfl⟩
theorem dL_device_1 : uD 1 cL_device 1 (.iconst 0) 2 := ⟨by decide +kernel, rfl⟩
theorem dL_device_2 : uD 1 cL_device 2 (.aload_n 0) 3 := ⟨by decide +kernel, rfl⟩
theorem dL_device_3 : uD 1 cL_device 3 (.iload_n 1) 4 := ⟨by decide +kernel, rfl⟩
theorem dL_device_4 : uD 1 cL_device 4 (.iload_n 2) 5 := ⟨by decide +kernel, rfl⟩
theorem dL_device_5 : uD 3 cL_device 5 (.invokevirtual 30) 8 := ⟨by decide +kernel, rfl⟩
theorem dL_device_8 : uD 1 cL_device 8 (.i2l) 9 := ⟨by decide +kernel, rfl⟩
theorem dL_device_9 : uD 1 cL_device 9 (.lastore) 10 := ⟨by decide +kernel, rfl⟩
theorem dL_device_10 : uJ cL_device 10 (fun o => .goto o) 21 13 := ⟨11, by decide +kernel, by decide, rfl⟩
theorem dL_device_13 : uD 2 cL_device 13 (.astore 4) 15 := ⟨by decide +kernel, rfl⟩
theorem dL_device_15 : uD 1 cL_device 15 (.iconst 1) 16 := ⟨by decide +kernel, rfl⟩
theorem dL_device_16 : uD 1 cL_device 16 (.ireturn) 17 := ⟨by decide +kernel, rfl⟩
theorem dL_device_17 : uD 2 cL_device 17 (.astore 4) 19 := ⟨by decide +kernel, rfl⟩
theorem dL_device_19 : uD 1 cL_device 19 (.iconst 2) 20 := ⟨by decide +kernel, rfl⟩
theorem dL_device_20 : uD 1 cL_device 20 (.ireturn) 21 := ⟨by decide +kernel, rfl⟩
theorem dL_device_21 : uD 1 cL_device 21 (.iconst 0) 22 := ⟨by decide +kernel, rfl⟩
theorem dL_device_22 : uD 1 cL_device 22 (.ireturn) 23 := ⟨by decide +kernel, rfl⟩
theorem dL_block_0 : uD 1 cL_block 0 (.aload_n 3) 1 := ⟨by decide +kernel, rfl⟩
theorem dL_block_1 : uD 1 cL_block 1 (.iconst 0) 2 := ⟨by decide +kernel, rfl⟩
theorem dL_block_2 : uD 1 cL_block 2 (.aload_n 0) 3 := ⟨by decide +kernel, rfl⟩
theorem dL_block_3 : uD 1 cL_block 3 (.iload_n 1) 4 := ⟨by decide +kernel, rfl⟩
theorem dL_block_4 : uD 1 cL_block 4 (.iload_n 2) 5 := ⟨by decide +kernel, rfl⟩
theorem dL_block_5 : uD 3 cL_block 5 (.invokevirtual 34) 8 := ⟨by decide +kernel, rfl⟩
theorem dL_block_8 : uD 1 cL_block 8 (.i2l) 9 := ⟨by decide +kernel, rfl⟩
theorem dL_block_9 : uD 1 cL_block 9 (.lastore) 10 := ⟨by decide +kernel, rfl⟩
theorem dL_block_10 : uJ cL_block 10 (fun o => .goto o) 21 13 := ⟨11, by decide +kernel, by decide, rfl⟩
theorem dL_block_13 : uD 2 cL_block 13 (.astore 4) 15 := ⟨by decide +kernel, rfl⟩
theorem dL_block_15 : uD 1 cL_block 15 (.iconst 1) 16 := ⟨by decide +kernel, rfl⟩
theorem dL_block_16 : uD 1 cL_block 16 (.ireturn) 17 := ⟨by decide +kernel, rfl⟩
theorem dL_block_17 : uD 2 cL_block 17 (.astore 4) 19 := ⟨by decide +kernel, rfl⟩
theorem dL_block_19 : uD 1 cL_block 19 (.iconst 2) 20 := ⟨by decide +kernel, rfl⟩
theorem dL_block_20 : uD 1 cL_block 20 (.ireturn) 21 := ⟨by decide +kernel, rfl⟩
theorem dL_block_21 : uD 1 cL_block 21 (.iconst 0) 22 := ⟨by decide +kernel, rfl⟩
theorem dL_block_22 : uD 1 cL_block 22 (.ireturn) 23 := ⟨by decide +kernel, rfl⟩
theorem dL_find_0 : uD 1 cL_find 0 (.aload_n 3) 1 := ⟨by decide +kernel, rfl⟩
theorem dL_find_1 : uD 1 cL_find 1 (.iconst 0) 2 := ⟨by decide +kernel, rfl⟩
theorem dL_find_2 : uD 1 cL_find 2 (.aload_n 0) 3 := ⟨by decide +kernel, rfl⟩
theorem dL_find_3 : uD 1 cL_find 3 (.iload_n 1) 4 := ⟨by decide +kernel, rfl⟩
theorem dL_find_4 : uD 1 cL_find 4 (.iload_n 2) 5 := ⟨by decide +kernel, rfl⟩
theorem dL_find_5 : uD 3 cL_find 5 (.invokevirtual 37) 8 := ⟨by decide +kernel, rfl⟩
theorem dL_find_8 : uD 1 cL_find 8 (.i2l) 9 := ⟨by decide +kernel, rfl⟩
theorem dL_find_9 : uD 1 cL_find 9 (.lastore) 10 := ⟨by decide +kernel, rfl⟩
theorem dL_find_10 : uJ cL_find 10 (fun o => .goto o) 21 13 := ⟨11, by decide +kernel, by decide, rfl⟩
theorem dL_find_13 : uD 2 cL_find 13 (.astore 4) 15 := ⟨by decide +kernel, rfl⟩
theorem dL_find_15 : uD 1 cL_find 15 (.iconst 1) 16 := ⟨by decide +kernel, rfl⟩
theorem dL_find_16 : uD 1 cL_find 16 (.ireturn) 17 := ⟨by decide +kernel, rfl⟩
theorem dL_find_17 : uD 2 cL_find 17 (.astore 4) 19 := ⟨by decide +kernel, rfl⟩
theorem dL_find_19 : uD 1 cL_find 19 (.iconst 2) 20 := ⟨by decide +kernel, rfl⟩
theorem dL_find_20 : uD 1 cL_find 20 (.ireturn) 21 := ⟨by decide +kernel, rfl⟩
theorem dL_find_21 : uD 1 cL_find 21 (.iconst 0) 22 := ⟨by decide +kernel, rfl⟩
theorem dL_find_22 : uD 1 cL_find 22 (.ireturn) 23 := ⟨by decide +kernel, rfl⟩
theorem dL_oldest_0 : uD 1 cL_oldest 0 (.aload_n 1) 1 := ⟨by decide +kernel, rfl⟩
theorem dL_oldest_1 : uD 1 cL_oldest 1 (.iconst 0) 2 := ⟨by decide +kernel, rfl⟩
theorem dL_oldest_2 : uD 1 cL_oldest 2 (.aload_n 0) 3 := ⟨by decide +kernel, rfl⟩
theorem dL_oldest_3 : uD 3 cL_oldest 3 (.invokevirtual 42) 6 := ⟨by decide +kernel, rfl⟩
theorem dL_oldest_6 : uD 1 cL_oldest 6 (.i2l) 7 := ⟨by decide +kernel, rfl⟩
theorem dL_oldest_7 : uD 1 cL_oldest 7 (.lastore) 8 := ⟨by decide +kernel, rfl⟩
theorem dL_oldest_8 : uJ cL_oldest 8 (fun o => .goto o) 14 11 := ⟨6, by decide +kernel, by decide, rfl⟩
theorem dL_oldest_11 : uD 1 cL_oldest 11 (.astore_n 2) 12 := ⟨by decide +kernel, rfl⟩
theorem dL_oldest_12 : uD 1 cL_oldest 12 (.iconst 1) 13 := ⟨by decide +kernel, rfl⟩
theorem dL_oldest_13 : uD 1 cL_oldest 13 (.ireturn) 14 := ⟨by decide +kernel, rfl⟩
theorem dL_oldest_14 : uD 1 cL_oldest 14 (.iconst 0) 15 := ⟨by decide +kernel, rfl⟩
theorem dL_oldest_15 : uD 1 cL_oldest 15 (.ireturn) 16 := ⟨by decide +kernel, rfl⟩
theorem dL_total_0 : uD 1 cL_total 0 (.aload_n 2) 1 := ⟨by decide +kernel, rfl⟩
theorem dL_total_1 : uD 1 cL_total 1 (.iconst 0) 2 := ⟨by decide +kernel, rfl⟩
theorem dL_total_2 : uD 1 cL_total 2 (.aload_n 0) 3 := ⟨by decide +kernel, rfl⟩
theorem dL_total_3 : uD 1 cL_total 3 (.iload_n 1) 4 := ⟨by decide +kernel, rfl⟩
theorem dL_total_4 : uD 3 cL_total 4 (.invokevirtual 45) 7 := ⟨by decide +kernel, rfl⟩
theorem dL_total_7 : uD 1 cL_total 7 (.i2l) 8 := ⟨by decide +kernel, rfl⟩
theorem dL_total_8 : uD 1 cL_total 8 (.lastore) 9 := ⟨by decide +kernel, rfl⟩
theorem dL_total_9 : uJ cL_total 9 (fun o => .goto o) 15 12 := ⟨6, by decide +kernel, by decide, rfl⟩
theorem dL_total_12 : uD 1 cL_total 12 (.astore_n 3) 13 := ⟨by decide +kernel, rfl⟩
theorem dL_total_13 : uD 1 cL_total 13 (.iconst 1) 14 := ⟨by decide +kernel, rfl⟩
theorem dL_total_14 : uD 1 cL_total 14 (.ireturn) 15 := ⟨by decide +kernel, rfl⟩
theorem dL_total_15 : uD 1 cL_total 15 (.iconst 0) 16 := ⟨by decide +kernel, rfl⟩
theorem dL_total_16 : uD 1 cL_total 16 (.ireturn) 17 := ⟨by decide +kernel, rfl⟩
theorem dL_write_0 : uD 2 cL_write 0 (.aload 4) 2 := ⟨by decide +kernel, rfl⟩
theorem dL_write_2 : uD 1 cL_write 2 (.iconst 0) 3 := ⟨by decide +kernel, rfl⟩
theorem dL_write_3 : uD 1 cL_write 3 (.aload_n 0) 4 := ⟨by decide +kernel, rfl⟩
theorem dL_write_4 : uD 1 cL_write 4 (.iload_n 1) 5 := ⟨by decide +kernel, rfl⟩
theorem dL_write_5 : uD 1 cL_write 5 (.iload_n 2) 6 := ⟨by decide +kernel, rfl⟩
theorem dL_write_6 : uD 1 cL_write 6 (.iload_n 3) 7 := ⟨by decide +kernel, rfl⟩
theorem dL_write_7 : uD 3 cL_write 7 (.invokevirtual 48) 10 := ⟨by decide +kernel, rfl⟩
theorem dL_write_10 : uJ cL_write 10 (fun o => .ifCond .eq o) 17 13 := ⟨7, by decide +kernel, by decide, rfl⟩
theorem dL_write_13 : uD 1 cL_write 13 (.lconst 1) 14 := ⟨by decide +kernel, rfl⟩
theorem dL_write_14 : uJ cL_write 14 (fun o => .goto o) 18 17 := ⟨4, by decide +kernel, by decide, rfl⟩
theorem dL_write_17 : uD 1 cL_write 17 (.lconst 0) 18 := ⟨by decide +kernel, rfl⟩
theorem dL_write_18 : uD 1 cL_write 18 (.lastore) 19 := ⟨by decide +kernel, rfl⟩
theorem dL_write_19 : uJ cL_write 19 (fun o => .goto o) 34 22 := ⟨15, by decide +kernel, by decide, rfl⟩
theorem dL_write_22 : uD 2 cL_write 22 (.astore 5) 24 := ⟨by decide +kernel, rfl⟩
theorem dL_write_24 : uD 1 cL_write 24 (.iconst 1) 25 := ⟨by decide +kernel, rfl⟩
theorem dL_write_25 : uD 1 cL_write 25 (.ireturn) 26 := ⟨by decide +kernel, rfl⟩
theorem dL_write_26 : uD 2 cL_write 26 (.astore 5) 28 := ⟨by decide +kernel, rfl⟩
theorem dL_write_28 : uD 1 cL_write 28 (.iconst 2) 29 := ⟨by decide +kernel, rfl⟩
theorem dL_write_29 : uD 1 cL_write 29 (.ireturn) 30 := ⟨by decide +kernel, rfl⟩
theorem dL_write_30 : uD 2 cL_write 30 (.astore 5) 32 := ⟨by decide +kernel, rfl⟩
theorem dL_write_32 : uD 1 cL_write 32 (.iconst 3) 33 := ⟨by decide +kernel, rfl⟩
theorem dL_write_33 : uD 1 cL_write 33 (.ireturn) 34 := ⟨by decide +kernel, rfl⟩
theorem dL_write_34 : uD 1 cL_write 34 (.iconst 0) 35 := ⟨by decide +kernel, rfl⟩
theorem dL_write_35 : uD 1 cL_write 35 (.ireturn) 36 := ⟨by decide +kernel, rfl⟩
theorem dL_wouldCache_0 : uD 2 cL_wouldCache 0 (.aload 4) 2 := ⟨by decide +kernel, rfl⟩
theorem dL_wouldCache_2 : uD 1 cL_wouldCache 2 (.iconst 0) 3 := ⟨by decide +kernel, rfl⟩
theorem dL_wouldCache_3 : uD 1 cL_wouldCache 3 (.aload_n 0) 4 := ⟨by decide +kernel, rfl⟩
theorem dL_wouldCache_4 : uD 1 cL_wouldCache 4 (.iload_n 1) 5 := ⟨by decide +kernel, rfl⟩
theorem dL_wouldCache_5 : uD 1 cL_wouldCache 5 (.iload_n 2) 6 := ⟨by decide +kernel, rfl⟩
theorem dL_wouldCache_6 : uD 1 cL_wouldCache 6 (.iload_n 3) 7 := ⟨by decide +kernel, rfl⟩
theorem dL_wouldCache_7 : uD 3 cL_wouldCache 7 (.invokevirtual 52) 10 := ⟨by decide +kernel, rfl⟩
theorem dL_wouldCache_10 : uJ cL_wouldCache 10 (fun o => .ifCond .eq o) 17 13 := ⟨7, by decide +kernel, by decide, rfl⟩
theorem dL_wouldCache_13 : uD 1 cL_wouldCache 13 (.lconst 1) 14 := ⟨by decide +kernel, rfl⟩
theorem dL_wouldCache_14 : uJ cL_wouldCache 14 (fun o => .goto o) 18 17 := ⟨4, by decide +kernel, by decide, rfl⟩
theorem dL_wouldCache_17 : uD 1 cL_wouldCache 17 (.lconst 0) 18 := ⟨by decide +kernel, rfl⟩
theorem dL_wouldCache_18 : uD 1 cL_wouldCache 18 (.lastore) 19 := ⟨by decide +kernel, rfl⟩
theorem dL_wouldCache_19 : uJ cL_wouldCache 19 (fun o => .goto o) 34 22 := ⟨15, by decide +kernel, by decide, rfl⟩
theorem dL_wouldCache_22 : uD 2 cL_wouldCache 22 (.astore 5) 24 := ⟨by decide +kernel, rfl⟩
theorem dL_wouldCache_24 : uD 1 cL_wouldCache 24 (.iconst 1) 25 := ⟨by decide +kernel, rfl⟩
theorem dL_wouldCache_25 : uD 1 cL_wouldCache 25 (.ireturn) 26 := ⟨by decide +kernel, rfl⟩
theorem dL_wouldCache_26 : uD 2 cL_wouldCache 26 (.astore 5) 28 := ⟨by decide +kernel, rfl⟩
theorem dL_wouldCache_28 : uD 1 cL_wouldCache 28 (.iconst 2) 29 := ⟨by decide +kernel, rfl⟩
theorem dL_wouldCache_29 : uD 1 cL_wouldCache 29 (.ireturn) 30 := ⟨by decide +kernel, rfl⟩
theorem dL_wouldCache_30 : uD 2 cL_wouldCache 30 (.astore 5) 32 := ⟨by decide +kernel, rfl⟩
theorem dL_wouldCache_32 : uD 1 cL_wouldCache 32 (.iconst 3) 33 := ⟨by decide +kernel, rfl⟩
theorem dL_wouldCache_33 : uD 1 cL_wouldCache 33 (.ireturn) 34 := ⟨by decide +kernel, rfl⟩
theorem dL_wouldCache_34 : uD 1 cL_wouldCache 34 (.iconst 0) 35 := ⟨by decide +kernel, rfl⟩
theorem dL_wouldCache_35 : uD 1 cL_wouldCache 35 (.ireturn) 36 := ⟨by decide +kernel, rfl⟩
theorem dL_clean_0 : uD 1 cL_clean 0 (.aload_n 2) 1 := ⟨by decide +kernel, rfl⟩
theorem dL_clean_1 : uD 1 cL_clean 1 (.iconst 0) 2 := ⟨by decide +kernel, rfl⟩
theorem dL_clean_2 : uD 1 cL_clean 2 (.aload_n 0) 3 := ⟨by decide +kernel, rfl⟩
theorem dL_clean_3 : uD 1 cL_clean 3 (.iload_n 1) 4 := ⟨by decide +kernel, rfl⟩
theorem dL_clean_4 : uD 3 cL_clean 4 (.invokevirtual 55) 7 := ⟨by decide +kernel, rfl⟩
theorem dL_clean_7 : uD 1 cL_clean 7 (.i2l) 8 := ⟨by decide +kernel, rfl⟩
theorem dL_clean_8 : uD 1 cL_clean 8 (.lastore) 9 := ⟨by decide +kernel, rfl⟩
theorem dL_clean_9 : uJ cL_clean 9 (fun o => .goto o) 18 12 := ⟨9, by decide +kernel, by decide, rfl⟩
theorem dL_clean_12 : uD 1 cL_clean 12 (.astore_n 3) 13 := ⟨by decide +kernel, rfl⟩
theorem dL_clean_13 : uD 1 cL_clean 13 (.iconst 1) 14 := ⟨by decide +kernel, rfl⟩
theorem dL_clean_14 : uD 1 cL_clean 14 (.ireturn) 15 := ⟨by decide +kernel, rfl⟩
theorem dL_clean_15 : uD 1 cL_clean 15 (.astore_n 3) 16 := ⟨by decide +kernel, rfl⟩
theorem dL_clean_16 : uD 1 cL_clean 16 (.iconst 2) 17 := ⟨by decide +kernel, rfl⟩
theorem dL_clean_17 : uD 1 cL_clean 17 (.ireturn) 18 := ⟨by decide +kernel, rfl⟩
theorem dL_clean_18 : uD 1 cL_clean 18 (.iconst 0) 19 := ⟨by decide +kernel, rfl⟩
theorem dL_clean_19 : uD 1 cL_clean 19 (.ireturn) 20 := ⟨by decide +kernel, rfl⟩
theorem dL_setFailed_0 : uD 1 cL_setFailed 0 (.aload_n 3) 1 := ⟨by decide +kernel, rfl⟩
theorem dL_setFailed_1 : uD 1 cL_setFailed 1 (.iconst 0) 2 := ⟨by decide +kernel, rfl⟩
theorem dL_setFailed_2 : uD 1 cL_setFailed 2 (.aload_n 0) 3 := ⟨by decide +kernel, rfl⟩
theorem dL_setFailed_3 : uD 1 cL_setFailed 3 (.iload_n 1) 4 := ⟨by decide +kernel, rfl⟩
theorem dL_setFailed_4 : uD 1 cL_setFailed 4 (.iload_n 2) 5 := ⟨by decide +kernel, rfl⟩
theorem dL_setFailed_5 : uD 3 cL_setFailed 5 (.invokevirtual 58) 8 := ⟨by decide +kernel, rfl⟩
theorem dL_setFailed_8 : uJ cL_setFailed 8 (fun o => .ifCond .eq o) 15 11 := ⟨7, by decide +kernel, by decide, rfl⟩
theorem dL_setFailed_11 : uD 1 cL_setFailed 11 (.lconst 1) 12 := ⟨by decide +kernel, rfl⟩
theorem dL_setFailed_12 : uJ cL_setFailed 12 (fun o => .goto o) 16 15 := ⟨4, by decide +kernel, by decide, rfl⟩
theorem dL_setFailed_15 : uD 1 cL_setFailed 15 (.lconst 0) 16 := ⟨by decide +kernel, rfl⟩
theorem dL_setFailed_16 : uD 1 cL_setFailed 16 (.lastore) 17 := ⟨by decide +kernel, rfl⟩
theorem dL_setFailed_17 : uJ cL_setFailed 17 (fun o => .goto o) 24 20 := ⟨7, by decide +kernel, by decide, rfl⟩
theorem dL_setFailed_20 : uD 2 cL_setFailed 20 (.astore 4) 22 := ⟨by decide +kernel, rfl⟩
theorem dL_setFailed_22 : uD 1 cL_setFailed 22 (.iconst 1) 23 := ⟨by decide +kernel, rfl⟩
theorem dL_setFailed_23 : uD 1 cL_setFailed 23 (.ireturn) 24 := ⟨by decide +kernel, rfl⟩
theorem dL_setFailed_24 : uD 1 cL_setFailed 24 (.iconst 0) 25 := ⟨by decide +kernel, rfl⟩
theorem dL_setFailed_25 : uD 1 cL_setFailed 25 (.ireturn) 26 := ⟨by decide +kernel, rfl⟩
theorem dL_setMode_0 : uD 1 cL_setMode 0 (.aload_n 3) 1 := ⟨by decide +kernel, rfl⟩
theorem dL_setMode_1 : uD 1 cL_setMode 1 (.iconst 0) 2 := ⟨by decide +kernel, rfl⟩
theorem dL_setMode_2 : uD 1 cL_setMode 2 (.aload_n 0) 3 := ⟨by decide +kernel, rfl⟩
theorem dL_setMode_3 : uD 1 cL_setMode 3 (.iload_n 1) 4 := ⟨by decide +kernel, rfl⟩
theorem dL_setMode_4 : uD 1 cL_setMode 4 (.iload_n 2) 5 := ⟨by decide +kernel, rfl⟩
theorem dL_setMode_5 : uD 3 cL_setMode 5 (.invokevirtual 62) 8 := ⟨by decide +kernel, rfl⟩
theorem dL_setMode_8 : uD 1 cL_setMode 8 (.i2l) 9 := ⟨by decide +kernel, rfl⟩
theorem dL_setMode_9 : uD 1 cL_setMode 9 (.lastore) 10 := ⟨by decide +kernel, rfl⟩
theorem dL_setMode_10 : uJ cL_setMode 10 (fun o => .goto o) 17 13 := ⟨7, by decide +kernel, by decide, rfl⟩
theorem dL_setMode_13 : uD 2 cL_setMode 13 (.astore 4) 15 := ⟨by decide +kernel, rfl⟩
theorem dL_setMode_15 : uD 1 cL_setMode 15 (.iconst 1) 16 := ⟨by decide +kernel, rfl⟩
theorem dL_setMode_16 : uD 1 cL_setMode 16 (.ireturn) 17 := ⟨by decide +kernel, rfl⟩
theorem dL_setMode_17 : uD 1 cL_setMode 17 (.iconst 0) 18 := ⟨by decide +kernel, rfl⟩
theorem dL_setMode_18 : uD 1 cL_setMode 18 (.ireturn) 19 := ⟨by decide +kernel, rfl⟩
theorem dL_advance_0 : uD 1 cL_advance 0 (.aload_n 2) 1 := ⟨by decide +kernel, rfl⟩
theorem dL_advance_1 : uD 1 cL_advance 1 (.iconst 0) 2 := ⟨by decide +kernel, rfl⟩
theorem dL_advance_2 : uD 1 cL_advance 2 (.aload_n 0) 3 := ⟨by decide +kernel, rfl⟩
theorem dL_advance_3 : uD 1 cL_advance 3 (.iload_n 1) 4 := ⟨by decide +kernel, rfl⟩
theorem dL_advance_4 : uD 3 cL_advance 4 (.invokevirtual 65) 7 := ⟨by decide +kernel, rfl⟩
theorem dL_advance_7 : uD 1 cL_advance 7 (.i2l) 8 := ⟨by decide +kernel, rfl⟩
theorem dL_advance_8 : uD 1 cL_advance 8 (.lastore) 9 := ⟨by decide +kernel, rfl⟩
theorem dL_advance_9 : uJ cL_advance 9 (fun o => .goto o) 15 12 := ⟨6, by decide +kernel, by decide, rfl⟩
theorem dL_advance_12 : uD 1 cL_advance 12 (.astore_n 3) 13 := ⟨by decide +kernel, rfl⟩
theorem dL_advance_13 : uD 1 cL_advance 13 (.iconst 1) 14 := ⟨by decide +kernel, rfl⟩
theorem dL_advance_14 : uD 1 cL_advance 14 (.ireturn) 15 := ⟨by decide +kernel, rfl⟩
theorem dL_advance_15 : uD 1 cL_advance 15 (.iconst 0) 16 := ⟨by decide +kernel, rfl⟩
theorem dL_advance_16 : uD 1 cL_advance 16 (.ireturn) 17 := ⟨by decide +kernel, rfl⟩
theorem dL_flush_0 : uD 1 cL_flush 0 (.aload_n 1) 1 := ⟨by decide +kernel, rfl⟩
theorem dL_flush_1 : uD 1 cL_flush 1 (.iconst 0) 2 := ⟨by decide +kernel, rfl⟩
theorem dL_flush_2 : uD 1 cL_flush 2 (.aload_n 0) 3 := ⟨by decide +kernel, rfl⟩
theorem dL_flush_3 : uD 3 cL_flush 3 (.invokevirtual 68) 6 := ⟨by decide +kernel, rfl⟩
theorem dL_flush_6 : uD 1 cL_flush 6 (.i2l) 7 := ⟨by decide +kernel, rfl⟩
theorem dL_flush_7 : uD 1 cL_flush 7 (.lastore) 8 := ⟨by decide +kernel, rfl⟩
theorem dL_flush_8 : uJ cL_flush 8 (fun o => .goto o) 14 11 := ⟨6, by decide +kernel, by decide, rfl⟩
theorem dL_flush_11 : uD 1 cL_flush 11 (.astore_n 2) 12 := ⟨by decide +kernel, rfl⟩
theorem dL_flush_12 : uD 1 cL_flush 12 (.iconst 1) 13 := ⟨by decide +kernel, rfl⟩
theorem dL_flush_13 : uD 1 cL_flush 13 (.ireturn) 14 := ⟨by decide +kernel, rfl⟩
theorem dL_flush_14 : uD 1 cL_flush 14 (.iconst 0) 15 := ⟨by decide +kernel, rfl⟩
theorem dL_flush_15 : uD 1 cL_flush 15 (.ireturn) 16 := ⟨by decide +kernel, rfl⟩
theorem dL_flushDevice_0 : uD 1 cL_flushDevice 0 (.aload_n 2) 1 := ⟨by decide +kernel, rfl⟩
theorem dL_flushDevice_1 : uD 1 cL_flushDevice 1 (.iconst 0) 2 := ⟨by decide +kernel, rfl⟩
theorem dL_flushDevice_2 : uD 1 cL_flushDevice 2 (.aload_n 0) 3 := ⟨by decide +kernel, rfl⟩
theorem dL_flushDevice_3 : uD 1 cL_flushDevice 3 (.iload_n 1) 4 := ⟨by decide +kernel, rfl⟩
theorem dL_flushDevice_4 : uD 3 cL_flushDevice 4 (.invokevirtual 71) 7 := ⟨by decide +kernel, rfl⟩
theorem dL_flushDevice_7 : uD 1 cL_flushDevice 7 (.i2l) 8 := ⟨by decide +kernel, rfl⟩
theorem dL_flushDevice_8 : uD 1 cL_flushDevice 8 (.lastore) 9 := ⟨by decide +kernel, rfl⟩
theorem dL_flushDevice_9 : uJ cL_flushDevice 9 (fun o => .goto o) 18 12 := ⟨9, by decide +kernel, by decide, rfl⟩
theorem dL_flushDevice_12 : uD 1 cL_flushDevice 12 (.astore_n 3) 13 := ⟨by decide +kernel, rfl⟩
theorem dL_flushDevice_13 : uD 1 cL_flushDevice 13 (.iconst 1) 14 := ⟨by decide +kernel, rfl⟩
theorem dL_flushDevice_14 : uD 1 cL_flushDevice 14 (.ireturn) 15 := ⟨by decide +kernel, rfl⟩
theorem dL_flushDevice_15 : uD 1 cL_flushDevice 15 (.astore_n 3) 16 := ⟨by decide +kernel, rfl⟩
theorem dL_flushDevice_16 : uD 1 cL_flushDevice 16 (.iconst 2) 17 := ⟨by decide +kernel, rfl⟩
theorem dL_flushDevice_17 : uD 1 cL_flushDevice 17 (.ireturn) 18 := ⟨by decide +kernel, rfl⟩
theorem dL_flushDevice_18 : uD 1 cL_flushDevice 18 (.iconst 0) 19 := ⟨by decide +kernel, rfl⟩
theorem dL_flushDevice_19 : uD 1 cL_flushDevice 19 (.ireturn) 20 := ⟨by decide +kernel, rfl⟩
theorem dL_energyOf_0 : uD 1 cL_energyOf 0 (.aload_n 2) 1 := ⟨by decide +kernel, rfl⟩
theorem dL_energyOf_1 : uD 1 cL_energyOf 1 (.iconst 0) 2 := ⟨by decide +kernel, rfl⟩
theorem dL_energyOf_2 : uD 1 cL_energyOf 2 (.aload_n 0) 3 := ⟨by decide +kernel, rfl⟩
theorem dL_energyOf_3 : uD 1 cL_energyOf 3 (.iload_n 1) 4 := ⟨by decide +kernel, rfl⟩
theorem dL_energyOf_4 : uD 3 cL_energyOf 4 (.invokevirtual 74) 7 := ⟨by decide +kernel, rfl⟩
theorem dL_energyOf_7 : uD 1 cL_energyOf 7 (.i2l) 8 := ⟨by decide +kernel, rfl⟩
theorem dL_energyOf_8 : uD 1 cL_energyOf 8 (.lastore) 9 := ⟨by decide +kernel, rfl⟩
theorem dL_energyOf_9 : uJ cL_energyOf 9 (fun o => .goto o) 15 12 := ⟨6, by decide +kernel, by decide, rfl⟩
theorem dL_energyOf_12 : uD 1 cL_energyOf 12 (.astore_n 3) 13 := ⟨by decide +kernel, rfl⟩
theorem dL_energyOf_13 : uD 1 cL_energyOf 13 (.iconst 1) 14 := ⟨by decide +kernel, rfl⟩
theorem dL_energyOf_14 : uD 1 cL_energyOf 14 (.ireturn) 15 := ⟨by decide +kernel, rfl⟩
theorem dL_energyOf_15 : uD 1 cL_energyOf 15 (.iconst 0) 16 := ⟨by decide +kernel, rfl⟩
theorem dL_energyOf_16 : uD 1 cL_energyOf 16 (.ireturn) 17 := ⟨by decide +kernel, rfl⟩
theorem dL_valueOf_0 : uD 1 cL_valueOf 0 (.aload_n 2) 1 := ⟨by decide +kernel, rfl⟩
theorem dL_valueOf_1 : uD 1 cL_valueOf 1 (.iconst 0) 2 := ⟨by decide +kernel, rfl⟩
theorem dL_valueOf_2 : uD 1 cL_valueOf 2 (.aload_n 0) 3 := ⟨by decide +kernel, rfl⟩
theorem dL_valueOf_3 : uD 1 cL_valueOf 3 (.iload_n 1) 4 := ⟨by decide +kernel, rfl⟩
theorem dL_valueOf_4 : uD 3 cL_valueOf 4 (.invokevirtual 77) 7 := ⟨by decide +kernel, rfl⟩
theorem dL_valueOf_7 : uD 1 cL_valueOf 7 (.i2l) 8 := ⟨by decide +kernel, rfl⟩
theorem dL_valueOf_8 : uD 1 cL_valueOf 8 (.lastore) 9 := ⟨by decide +kernel, rfl⟩
theorem dL_valueOf_9 : uJ cL_valueOf 9 (fun o => .goto o) 15 12 := ⟨6, by decide +kernel, by decide, rfl⟩
theorem dL_valueOf_12 : uD 1 cL_valueOf 12 (.astore_n 3) 13 := ⟨by decide +kernel, rfl⟩
theorem dL_valueOf_13 : uD 1 cL_valueOf 13 (.iconst 1) 14 := ⟨by decide +kernel, rfl⟩
theorem dL_valueOf_14 : uD 1 cL_valueOf 14 (.ireturn) 15 := ⟨by decide +kernel, rfl⟩
theorem dL_valueOf_15 : uD 1 cL_valueOf 15 (.iconst 0) 16 := ⟨by decide +kernel, rfl⟩
theorem dL_valueOf_16 : uD 1 cL_valueOf 16 (.ireturn) 17 := ⟨by decide +kernel, rfl⟩
theorem dL_bestSet_0 : uD 1 cL_bestSet 0 (.aload_n 2) 1 := ⟨by decide +kernel, rfl⟩
theorem dL_bestSet_1 : uD 1 cL_bestSet 1 (.iconst 0) 2 := ⟨by decide +kernel, rfl⟩
theorem dL_bestSet_2 : uD 1 cL_bestSet 2 (.aload_n 0) 3 := ⟨by decide +kernel, rfl⟩
theorem dL_bestSet_3 : uD 1 cL_bestSet 3 (.iload_n 1) 4 := ⟨by decide +kernel, rfl⟩
theorem dL_bestSet_4 : uD 3 cL_bestSet 4 (.invokevirtual 80) 7 := ⟨by decide +kernel, rfl⟩
theorem dL_bestSet_7 : uD 1 cL_bestSet 7 (.i2l) 8 := ⟨by decide +kernel, rfl⟩
theorem dL_bestSet_8 : uD 1 cL_bestSet 8 (.lastore) 9 := ⟨by decide +kernel, rfl⟩
theorem dL_bestSet_9 : uJ cL_bestSet 9 (fun o => .goto o) 15 12 := ⟨6, by decide +kernel, by decide, rfl⟩
theorem dL_bestSet_12 : uD 1 cL_bestSet 12 (.astore_n 3) 13 := ⟨by decide +kernel, rfl⟩
theorem dL_bestSet_13 : uD 1 cL_bestSet 13 (.iconst 1) 14 := ⟨by decide +kernel, rfl⟩
theorem dL_bestSet_14 : uD 1 cL_bestSet 14 (.ireturn) 15 := ⟨by decide +kernel, rfl⟩
theorem dL_bestSet_15 : uD 1 cL_bestSet 15 (.iconst 0) 16 := ⟨by decide +kernel, rfl⟩
theorem dL_bestSet_16 : uD 1 cL_bestSet 16 (.ireturn) 17 := ⟨by decide +kernel, rfl⟩
theorem dL_bestValue_0 : uD 1 cL_bestValue 0 (.aload_n 2) 1 := ⟨by decide +kernel, rfl⟩
theorem dL_bestValue_1 : uD 1 cL_bestValue 1 (.iconst 0) 2 := ⟨by decide +kernel, rfl⟩
theorem dL_bestValue_2 : uD 1 cL_bestValue 2 (.aload_n 0) 3 := ⟨by decide +kernel, rfl⟩
theorem dL_bestValue_3 : uD 1 cL_bestValue 3 (.iload_n 1) 4 := ⟨by decide +kernel, rfl⟩
theorem dL_bestValue_4 : uD 3 cL_bestValue 4 (.invokevirtual 83) 7 := ⟨by decide +kernel, rfl⟩
theorem dL_bestValue_7 : uD 1 cL_bestValue 7 (.i2l) 8 := ⟨by decide +kernel, rfl⟩
theorem dL_bestValue_8 : uD 1 cL_bestValue 8 (.lastore) 9 := ⟨by decide +kernel, rfl⟩
theorem dL_bestValue_9 : uJ cL_bestValue 9 (fun o => .goto o) 15 12 := ⟨6, by decide +kernel, by decide, rfl⟩
theorem dL_bestValue_12 : uD 1 cL_bestValue 12 (.astore_n 3) 13 := ⟨by decide +kernel, rfl⟩
theorem dL_bestValue_13 : uD 1 cL_bestValue 13 (.iconst 1) 14 := ⟨by decide +kernel, rfl⟩
theorem dL_bestValue_14 : uD 1 cL_bestValue 14 (.ireturn) 15 := ⟨by decide +kernel, rfl⟩
theorem dL_bestValue_15 : uD 1 cL_bestValue 15 (.iconst 0) 16 := ⟨by decide +kernel, rfl⟩
theorem dL_bestValue_16 : uD 1 cL_bestValue 16 (.ireturn) 17 := ⟨by decide +kernel, rfl⟩
theorem dL_greedySet_0 : uD 1 cL_greedySet 0 (.aload_n 2) 1 := ⟨by decide +kernel, rfl⟩
theorem dL_greedySet_1 : uD 1 cL_greedySet 1 (.iconst 0) 2 := ⟨by decide +kernel, rfl⟩
theorem dL_greedySet_2 : uD 1 cL_greedySet 2 (.aload_n 0) 3 := ⟨by decide +kernel, rfl⟩
theorem dL_greedySet_3 : uD 1 cL_greedySet 3 (.iload_n 1) 4 := ⟨by decide +kernel, rfl⟩
theorem dL_greedySet_4 : uD 3 cL_greedySet 4 (.invokevirtual 86) 7 := ⟨by decide +kernel, rfl⟩
theorem dL_greedySet_7 : uD 1 cL_greedySet 7 (.i2l) 8 := ⟨by decide +kernel, rfl⟩
theorem dL_greedySet_8 : uD 1 cL_greedySet 8 (.lastore) 9 := ⟨by decide +kernel, rfl⟩
theorem dL_greedySet_9 : uJ cL_greedySet 9 (fun o => .goto o) 15 12 := ⟨6, by decide +kernel, by decide, rfl⟩
theorem dL_greedySet_12 : uD 1 cL_greedySet 12 (.astore_n 3) 13 := ⟨by decide +kernel, rfl⟩
theorem dL_greedySet_13 : uD 1 cL_greedySet 13 (.iconst 1) 14 := ⟨by decide +kernel, rfl⟩
theorem dL_greedySet_14 : uD 1 cL_greedySet 14 (.ireturn) 15 := ⟨by decide +kernel, rfl⟩
theorem dL_greedySet_15 : uD 1 cL_greedySet 15 (.iconst 0) 16 := ⟨by decide +kernel, rfl⟩
theorem dL_greedySet_16 : uD 1 cL_greedySet 16 (.ireturn) 17 := ⟨by decide +kernel, rfl⟩
theorem dL_quality_0 : uD 1 cL_quality 0 (.aload_n 2) 1 := ⟨by decide +kernel, rfl⟩
theorem dL_quality_1 : uD 1 cL_quality 1 (.iconst 0) 2 := ⟨by decide +kernel, rfl⟩
theorem dL_quality_2 : uD 1 cL_quality 2 (.aload_n 0) 3 := ⟨by decide +kernel, rfl⟩
theorem dL_quality_3 : uD 1 cL_quality 3 (.iload_n 1) 4 := ⟨by decide +kernel, rfl⟩
theorem dL_quality_4 : uD 3 cL_quality 4 (.invokevirtual 89) 7 := ⟨by decide +kernel, rfl⟩
theorem dL_quality_7 : uD 1 cL_quality 7 (.dastore) 8 := ⟨by decide +kernel, rfl⟩
theorem dL_quality_8 : uJ cL_quality 8 (fun o => .goto o) 17 11 := ⟨9, by decide +kernel, by decide, rfl⟩
theorem dL_quality_11 : uD 1 cL_quality 11 (.astore_n 3) 12 := ⟨by decide +kernel, rfl⟩
theorem dL_quality_12 : uD 1 cL_quality 12 (.iconst 1) 13 := ⟨by decide +kernel, rfl⟩
theorem dL_quality_13 : uD 1 cL_quality 13 (.ireturn) 14 := ⟨by decide +kernel, rfl⟩
theorem dL_quality_14 : uD 1 cL_quality 14 (.astore_n 3) 15 := ⟨by decide +kernel, rfl⟩
theorem dL_quality_15 : uD 1 cL_quality 15 (.iconst 2) 16 := ⟨by decide +kernel, rfl⟩
theorem dL_quality_16 : uD 1 cL_quality 16 (.ireturn) 17 := ⟨by decide +kernel, rfl⟩
theorem dL_quality_17 : uD 1 cL_quality 17 (.iconst 0) 18 := ⟨by decide +kernel, rfl⟩
theorem dL_quality_18 : uD 1 cL_quality 18 (.ireturn) 19 := ⟨by decide +kernel, rfl⟩
theorem dL_energyFor_0 : uD 1 cL_energyFor 0 (.aload_n 2) 1 := ⟨by decide +kernel, rfl⟩
theorem dL_energyFor_1 : uD 1 cL_energyFor 1 (.iconst 0) 2 := ⟨by decide +kernel, rfl⟩
theorem dL_energyFor_2 : uD 1 cL_energyFor 2 (.aload_n 0) 3 := ⟨by decide +kernel, rfl⟩
theorem dL_energyFor_3 : uD 1 cL_energyFor 3 (.iload_n 1) 4 := ⟨by decide +kernel, rfl⟩
theorem dL_energyFor_4 : uD 3 cL_energyFor 4 (.invokevirtual 93) 7 := ⟨by decide +kernel, rfl⟩
theorem dL_energyFor_7 : uD 1 cL_energyFor 7 (.i2l) 8 := ⟨by decide +kernel, rfl⟩
theorem dL_energyFor_8 : uD 1 cL_energyFor 8 (.lastore) 9 := ⟨by decide +kernel, rfl⟩
theorem dL_energyFor_9 : uJ cL_energyFor 9 (fun o => .goto o) 18 12 := ⟨9, by decide +kernel, by decide, rfl⟩
theorem dL_energyFor_12 : uD 1 cL_energyFor 12 (.astore_n 3) 13 := ⟨by decide +kernel, rfl⟩
theorem dL_energyFor_13 : uD 1 cL_energyFor 13 (.iconst 1) 14 := ⟨by decide +kernel, rfl⟩
theorem dL_energyFor_14 : uD 1 cL_energyFor 14 (.ireturn) 15 := ⟨by decide +kernel, rfl⟩
theorem dL_energyFor_15 : uD 1 cL_energyFor 15 (.astore_n 3) 16 := ⟨by decide +kernel, rfl⟩
theorem dL_energyFor_16 : uD 1 cL_energyFor 16 (.iconst 2) 17 := ⟨by decide +kernel, rfl⟩
theorem dL_energyFor_17 : uD 1 cL_energyFor 17 (.ireturn) 18 := ⟨by decide +kernel, rfl⟩
theorem dL_energyFor_18 : uD 1 cL_energyFor 18 (.iconst 0) 19 := ⟨by decide +kernel, rfl⟩
theorem dL_energyFor_19 : uD 1 cL_energyFor 19 (.ireturn) 20 := ⟨by decide +kernel, rfl⟩
theorem dL_extra_0 : uD 1 cL_extra 0 (.aload_n 2) 1 := ⟨by decide +kernel, rfl⟩
theorem dL_extra_1 : uD 1 cL_extra 1 (.iconst 0) 2 := ⟨by decide +kernel, rfl⟩
theorem dL_extra_2 : uD 1 cL_extra 2 (.aload_n 0) 3 := ⟨by decide +kernel, rfl⟩
theorem dL_extra_3 : uD 1 cL_extra 3 (.iload_n 1) 4 := ⟨by decide +kernel, rfl⟩
theorem dL_extra_4 : uD 3 cL_extra 4 (.invokevirtual 96) 7 := ⟨by decide +kernel, rfl⟩
theorem dL_extra_7 : uD 1 cL_extra 7 (.i2l) 8 := ⟨by decide +kernel, rfl⟩
theorem dL_extra_8 : uD 1 cL_extra 8 (.lastore) 9 := ⟨by decide +kernel, rfl⟩
theorem dL_extra_9 : uJ cL_extra 9 (fun o => .goto o) 18 12 := ⟨9, by decide +kernel, by decide, rfl⟩
theorem dL_extra_12 : uD 1 cL_extra 12 (.astore_n 3) 13 := ⟨by decide +kernel, rfl⟩
theorem dL_extra_13 : uD 1 cL_extra 13 (.iconst 1) 14 := ⟨by decide +kernel, rfl⟩
theorem dL_extra_14 : uD 1 cL_extra 14 (.ireturn) 15 := ⟨by decide +kernel, rfl⟩
theorem dL_extra_15 : uD 1 cL_extra 15 (.astore_n 3) 16 := ⟨by decide +kernel, rfl⟩
theorem dL_extra_16 : uD 1 cL_extra 16 (.iconst 2) 17 := ⟨by decide +kernel, rfl⟩
theorem dL_extra_17 : uD 1 cL_extra 17 (.ireturn) 18 := ⟨by decide +kernel, rfl⟩
theorem dL_extra_18 : uD 1 cL_extra 18 (.iconst 0) 19 := ⟨by decide +kernel, rfl⟩
theorem dL_extra_19 : uD 1 cL_extra 19 (.ireturn) 20 := ⟨by decide +kernel, rfl⟩
theorem dL_valueAfter_0 : uD 1 cL_valueAfter 0 (.aload_n 2) 1 := ⟨by decide +kernel, rfl⟩
theorem dL_valueAfter_1 : uD 1 cL_valueAfter 1 (.iconst 0) 2 := ⟨by decide +kernel, rfl⟩
theorem dL_valueAfter_2 : uD 1 cL_valueAfter 2 (.aload_n 0) 3 := ⟨by decide +kernel, rfl⟩
theorem dL_valueAfter_3 : uD 1 cL_valueAfter 3 (.iload_n 1) 4 := ⟨by decide +kernel, rfl⟩
theorem dL_valueAfter_4 : uD 3 cL_valueAfter 4 (.invokevirtual 99) 7 := ⟨by decide +kernel, rfl⟩
theorem dL_valueAfter_7 : uD 1 cL_valueAfter 7 (.i2l) 8 := ⟨by decide +kernel, rfl⟩
theorem dL_valueAfter_8 : uD 1 cL_valueAfter 8 (.lastore) 9 := ⟨by decide +kernel, rfl⟩
theorem dL_valueAfter_9 : uJ cL_valueAfter 9 (fun o => .goto o) 15 12 := ⟨6, by decide +kernel, by decide, rfl⟩
theorem dL_valueAfter_12 : uD 1 cL_valueAfter 12 (.astore_n 3) 13 := ⟨by decide +kernel, rfl⟩
theorem dL_valueAfter_13 : uD 1 cL_valueAfter 13 (.iconst 1) 14 := ⟨by decide +kernel, rfl⟩
theorem dL_valueAfter_14 : uD 1 cL_valueAfter 14 (.ireturn) 15 := ⟨by decide +kernel, rfl⟩
theorem dL_valueAfter_15 : uD 1 cL_valueAfter 15 (.iconst 0) 16 := ⟨by decide +kernel, rfl⟩
theorem dL_valueAfter_16 : uD 1 cL_valueAfter 16 (.ireturn) 17 := ⟨by decide +kernel, rfl⟩
theorem dL_gainOfRepair_0 : uD 1 cL_gainOfRepair 0 (.aload_n 2) 1 := ⟨by decide +kernel, rfl⟩
theorem dL_gainOfRepair_1 : uD 1 cL_gainOfRepair 1 (.iconst 0) 2 := ⟨by decide +kernel, rfl⟩
theorem dL_gainOfRepair_2 : uD 1 cL_gainOfRepair 2 (.aload_n 0) 3 := ⟨by decide +kernel, rfl⟩
theorem dL_gainOfRepair_3 : uD 1 cL_gainOfRepair 3 (.iload_n 1) 4 := ⟨by decide +kernel, rfl⟩
theorem dL_gainOfRepair_4 : uD 3 cL_gainOfRepair 4 (.invokevirtual 102) 7 := ⟨by decide +kernel, rfl⟩
theorem dL_gainOfRepair_7 : uD 1 cL_gainOfRepair 7 (.i2l) 8 := ⟨by decide +kernel, rfl⟩
theorem dL_gainOfRepair_8 : uD 1 cL_gainOfRepair 8 (.lastore) 9 := ⟨by decide +kernel, rfl⟩
theorem dL_gainOfRepair_9 : uJ cL_gainOfRepair 9 (fun o => .goto o) 15 12 := ⟨6, by decide +kernel, by decide, rfl⟩
theorem dL_gainOfRepair_12 : uD 1 cL_gainOfRepair 12 (.astore_n 3) 13 := ⟨by decide +kernel, rfl⟩
theorem dL_gainOfRepair_13 : uD 1 cL_gainOfRepair 13 (.iconst 1) 14 := ⟨by decide +kernel, rfl⟩
theorem dL_gainOfRepair_14 : uD 1 cL_gainOfRepair 14 (.ireturn) 15 := ⟨by decide +kernel, rfl⟩
theorem dL_gainOfRepair_15 : uD 1 cL_gainOfRepair 15 (.iconst 0) 16 := ⟨by decide +kernel, rfl⟩
theorem dL_gainOfRepair_16 : uD 1 cL_gainOfRepair 16 (.ireturn) 17 := ⟨by decide +kernel, rfl⟩
theorem dL_costliest_0 : uD 1 cL_costliest 0 (.aload_n 1) 1 := ⟨by decide +kernel, rfl⟩
theorem dL_costliest_1 : uD 1 cL_costliest 1 (.iconst 0) 2 := ⟨by decide +kernel, rfl⟩
theorem dL_costliest_2 : uD 1 cL_costliest 2 (.aload_n 0) 3 := ⟨by decide +kernel, rfl⟩
theorem dL_costliest_3 : uD 3 cL_costliest 3 (.invokevirtual 105) 6 := ⟨by decide +kernel, rfl⟩
theorem dL_costliest_6 : uD 1 cL_costliest 6 (.i2l) 7 := ⟨by decide +kernel, rfl⟩
theorem dL_costliest_7 : uD 1 cL_costliest 7 (.lastore) 8 := ⟨by decide +kernel, rfl⟩
theorem dL_costliest_8 : uJ cL_costliest 8 (fun o => .goto o) 14 11 := ⟨6, by decide +kernel, by decide, rfl⟩
theorem dL_costliest_11 : uD 1 cL_costliest 11 (.astore_n 2) 12 := ⟨by decide +kernel, rfl⟩
theorem dL_costliest_12 : uD 1 cL_costliest 12 (.iconst 1) 13 := ⟨by decide +kernel, rfl⟩
theorem dL_costliest_13 : uD 1 cL_costliest 13 (.ireturn) 14 := ⟨by decide +kernel, rfl⟩
theorem dL_costliest_14 : uD 1 cL_costliest 14 (.iconst 0) 15 := ⟨by decide +kernel, rfl⟩
theorem dL_costliest_15 : uD 1 cL_costliest 15 (.ireturn) 16 := ⟨by decide +kernel, rfl⟩
theorem dL_save_0 : uD 1 cL_save 0 (.aload_n 0) 1 := ⟨by decide +kernel, rfl⟩
theorem dL_save_1 : uD 1 cL_save 1 (.iload_n 1) 2 := ⟨by decide +kernel, rfl⟩
theorem dL_save_2 : uD 3 cL_save 2 (.invokevirtual 108) 5 := ⟨by decide +kernel, rfl⟩
theorem dL_save_5 : uJ cL_save 5 (fun o => .goto o) 11 8 := ⟨6, by decide +kernel, by decide, rfl⟩
theorem dL_save_8 : uD 1 cL_save 8 (.astore_n 2) 9 := ⟨by decide +kernel, rfl⟩
theorem dL_save_9 : uD 1 cL_save 9 (.iconst 1) 10 := ⟨by decide +kernel, rfl⟩
theorem dL_save_10 : uD 1 cL_save 10 (.ireturn) 11 := ⟨by decide +kernel, rfl⟩
theorem dL_save_11 : uD 1 cL_save 11 (.iconst 0) 12 := ⟨by decide +kernel, rfl⟩
theorem dL_save_12 : uD 1 cL_save 12 (.ireturn) 13 := ⟨by decide +kernel, rfl⟩
theorem dL_restore_0 : uD 1 cL_restore 0 (.aload_n 0) 1 := ⟨by decide +kernel, rfl⟩
theorem dL_restore_1 : uD 1 cL_restore 1 (.iload_n 1) 2 := ⟨by decide +kernel, rfl⟩
theorem dL_restore_2 : uD 3 cL_restore 2 (.invokevirtual 112) 5 := ⟨by decide +kernel, rfl⟩
theorem dL_restore_5 : uJ cL_restore 5 (fun o => .goto o) 14 8 := ⟨9, by decide +kernel, by decide, rfl⟩
theorem dL_restore_8 : uD 1 cL_restore 8 (.astore_n 2) 9 := ⟨by decide +kernel, rfl⟩
theorem dL_restore_9 : uD 1 cL_restore 9 (.iconst 1) 10 := ⟨by decide +kernel, rfl⟩
theorem dL_restore_10 : uD 1 cL_restore 10 (.ireturn) 11 := ⟨by decide +kernel, rfl⟩
theorem dL_restore_11 : uD 1 cL_restore 11 (.astore_n 2) 12 := ⟨by decide +kernel, rfl⟩
theorem dL_restore_12 : uD 1 cL_restore 12 (.iconst 2) 13 := ⟨by decide +kernel, rfl⟩
theorem dL_restore_13 : uD 1 cL_restore 13 (.ireturn) 14 := ⟨by decide +kernel, rfl⟩
theorem dL_restore_14 : uD 1 cL_restore 14 (.iconst 0) 15 := ⟨by decide +kernel, rfl⟩
theorem dL_restore_15 : uD 1 cL_restore 15 (.ireturn) 16 := ⟨by decide +kernel, rfl⟩
theorem dL_law_0 : uD 3 cL_law 0 (.new 8) 3 := ⟨by decide +kernel, rfl⟩
theorem dL_law_3 : uD 1 cL_law 3 (.dup) 4 := ⟨by decide +kernel, rfl⟩
theorem dL_law_4 : uD 3 cL_law 4 (.invokespecial 115) 7 := ⟨by decide +kernel, rfl⟩
theorem dL_law_7 : uD 1 cL_law 7 (.astore_n 1) 8 := ⟨by decide +kernel, rfl⟩
theorem dL_law_8 : uD 3 cL_law 8 (.new 116) 11 := ⟨by decide +kernel, rfl⟩
theorem dL_law_11 : uD 1 cL_law 11 (.dup) 12 := ⟨by decide +kernel, rfl⟩
theorem dL_law_12 : uD 3 cL_law 12 (.invokespecial 118) 15 := ⟨by decide +kernel, rfl⟩
theorem dL_law_15 : uD 1 cL_law 15 (.astore_n 2) 16 := ⟨by decide +kernel, rfl⟩
theorem dL_law_16 : uD 1 cL_law 16 (.iconst 1) 17 := ⟨by decide +kernel, rfl⟩
theorem dL_law_17 : uD 2 cL_law 17 (.newarray .long) 19 := ⟨by decide +kernel, rfl⟩
theorem dL_law_19 : uD 1 cL_law 19 (.astore_n 3) 20 := ⟨by decide +kernel, rfl⟩
theorem dL_law_20 : uD 1 cL_law 20 (.iconst 1) 21 := ⟨by decide +kernel, rfl⟩
theorem dL_law_21 : uD 2 cL_law 21 (.newarray .double) 23 := ⟨by decide +kernel, rfl⟩
theorem dL_law_23 : uD 2 cL_law 23 (.astore 4) 25 := ⟨by decide +kernel, rfl⟩
theorem dL_law_25 : uD 1 cL_law 25 (.iconst 0) 26 := ⟨by decide +kernel, rfl⟩
theorem dL_law_26 : uD 2 cL_law 26 (.istore 5) 28 := ⟨by decide +kernel, rfl⟩
theorem dL_law_28 : uD 2 cL_law 28 (.iload 5) 30 := ⟨by decide +kernel, rfl⟩
theorem dL_law_30 : uD 1 cL_law 30 (.aload_n 0) 31 := ⟨by decide +kernel, rfl⟩
theorem dL_law_31 : uD 1 cL_law 31 (.arraylength) 32 := ⟨by decide +kernel, rfl⟩
theorem dL_law_32 : uD 2 cL_law 32 (.bipush 6) 34 := ⟨by decide +kernel, rfl⟩
theorem dL_law_34 : uD 1 cL_law 34 (.isub) 35 := ⟨by decide +kernel, rfl⟩
theorem dL_law_35 : uJ cL_law 35 (fun o => .if_icmp .gt o) 2122 38 := ⟨2087, by decide +kernel, by decide, rfl⟩
theorem dL_law_38 : uD 1 cL_law 38 (.aload_n 0) 39 := ⟨by decide +kernel, rfl⟩
theorem dL_law_39 : uD 2 cL_law 39 (.iload 5) 41 := ⟨by decide +kernel, rfl⟩
theorem dL_law_41 : uD 1 cL_law 41 (.iaload) 42 := ⟨by decide +kernel, rfl⟩
theorem dL_law_42 : uD 2 cL_law 42 (.bipush 63) 44 := ⟨by decide +kernel, rfl⟩
theorem dL_law_44 : uD 1 cL_law 44 (.iand) 45 := ⟨by decide +kernel, rfl⟩
theorem dL_law_45 : uD 159 cL_law 45 (.tableswitch 2071 0 35 #[159, 263, 319, 363, 376, 389, 445, 513, 581, 649, 693, 749, 836, 923, 979, 1070, 1138, 1179, 1235, 1279, 1335, 1348, 1404, 1460, 1516, 1572, 1628, 1705, 1761, 1817, 1830, 1886, 1899, 1955, 1999, 2035]) 204 := ⟨by decide +kernel, rfl⟩
theorem dL_law_204 : uD 1 cL_law 204 (.aload_n 1) 205 := ⟨by decide +kernel, rfl⟩
theorem dL_law_205 : uD 1 cL_law 205 (.aload_n 0) 206 := ⟨by decide +kernel, rfl⟩
theorem dL_law_206 : uD 2 cL_law 206 (.iload 5) 208 := ⟨by decide +kernel, rfl⟩
theorem dL_law_208 : uD 1 cL_law 208 (.iconst 1) 209 := ⟨by decide +kernel, rfl⟩
theorem dL_law_209 : uD 1 cL_law 209 (.iadd) 210 := ⟨by decide +kernel, rfl⟩
theorem dL_law_210 : uD 1 cL_law 210 (.iaload) 211 := ⟨by decide +kernel, rfl⟩
theorem dL_law_211 : uD 1 cL_law 211 (.aload_n 0) 212 := ⟨by decide +kernel, rfl⟩
theorem dL_law_212 : uD 2 cL_law 212 (.iload 5) 214 := ⟨by decide +kernel, rfl⟩
theorem dL_law_214 : uD 1 cL_law 214 (.iconst 2) 215 := ⟨by decide +kernel, rfl⟩
theorem dL_law_215 : uD 1 cL_law 215 (.iadd) 216 := ⟨by decide +kernel, rfl⟩
theorem dL_law_216 : uD 1 cL_law 216 (.iaload) 217 := ⟨by decide +kernel, rfl⟩
theorem dL_law_217 : uD 1 cL_law 217 (.aload_n 0) 218 := ⟨by decide +kernel, rfl⟩
theorem dL_law_218 : uD 2 cL_law 218 (.iload 5) 220 := ⟨by decide +kernel, rfl⟩
theorem dL_law_220 : uD 1 cL_law 220 (.iconst 3) 221 := ⟨by decide +kernel, rfl⟩
theorem dL_law_221 : uD 1 cL_law 221 (.iadd) 222 := ⟨by decide +kernel, rfl⟩
theorem dL_law_222 : uD 1 cL_law 222 (.iaload) 223 := ⟨by decide +kernel, rfl⟩
theorem dL_law_223 : uD 1 cL_law 223 (.aload_n 0) 224 := ⟨by decide +kernel, rfl⟩
theorem dL_law_224 : uD 2 cL_law 224 (.iload 5) 226 := ⟨by decide +kernel, rfl⟩
theorem dL_law_226 : uD 1 cL_law 226 (.iconst 4) 227 := ⟨by decide +kernel, rfl⟩
theorem dL_law_227 : uD 1 cL_law 227 (.iadd) 228 := ⟨by decide +kernel, rfl⟩
theorem dL_law_228 : uD 1 cL_law 228 (.iaload) 229 := ⟨by decide +kernel, rfl⟩
theorem dL_law_229 : uD 1 cL_law 229 (.aload_n 0) 230 := ⟨by decide +kernel, rfl⟩
theorem dL_law_230 : uD 2 cL_law 230 (.iload 5) 232 := ⟨by decide +kernel, rfl⟩
theorem dL_law_232 : uD 1 cL_law 232 (.iconst 5) 233 := ⟨by decide +kernel, rfl⟩
theorem dL_law_233 : uD 1 cL_law 233 (.iadd) 234 := ⟨by decide +kernel, rfl⟩
theorem dL_law_234 : uD 1 cL_law 234 (.iaload) 235 := ⟨by decide +kernel, rfl⟩
theorem dL_law_235 : uD 1 cL_law 235 (.aload_n 3) 236 := ⟨by decide +kernel, rfl⟩
theorem dL_law_236 : uD 3 cL_law 236 (.invokestatic 119) 239 := ⟨by decide +kernel, rfl⟩
theorem dL_law_239 : uD 2 cL_law 239 (.istore 6) 241 := ⟨by decide +kernel, rfl⟩
theorem dL_law_241 : uD 1 cL_law 241 (.aload_n 2) 242 := ⟨by decide +kernel, rfl⟩
theorem dL_law_242 : uD 1 cL_law 242 (.aload_n 0) 243 := ⟨by decide +kernel, rfl⟩
theorem dL_law_243 : uD 2 cL_law 243 (.iload 5) 245 := ⟨by decide +kernel, rfl⟩
theorem dL_law_245 : uD 1 cL_law 245 (.iconst 1) 246 := ⟨by decide +kernel, rfl⟩
theorem dL_law_246 : uD 1 cL_law 246 (.iadd) 247 := ⟨by decide +kernel, rfl⟩
theorem dL_law_247 : uD 1 cL_law 247 (.iaload) 248 := ⟨by decide +kernel, rfl⟩
theorem dL_law_248 : uD 1 cL_law 248 (.aload_n 0) 249 := ⟨by decide +kernel, rfl⟩
theorem dL_law_249 : uD 2 cL_law 249 (.iload 5) 251 := ⟨by decide +kernel, rfl⟩
theorem dL_law_251 : uD 1 cL_law 251 (.iconst 2) 252 := ⟨by decide +kernel, rfl⟩
theorem dL_law_252 : uD 1 cL_law 252 (.iadd) 253 := ⟨by decide +kernel, rfl⟩
theorem dL_law_253 : uD 1 cL_law 253 (.iaload) 254 := ⟨by decide +kernel, rfl⟩
theorem dL_law_254 : uD 1 cL_law 254 (.aload_n 0) 255 := ⟨by decide +kernel, rfl⟩
theorem dL_law_255 : uD 2 cL_law 255 (.iload 5) 257 := ⟨by decide +kernel, rfl⟩
theorem dL_law_257 : uD 1 cL_law 257 (.iconst 3) 258 := ⟨by decide +kernel, rfl⟩
theorem dL_law_258 : uD 1 cL_law 258 (.iadd) 259 := ⟨by decide +kernel, rfl⟩
theorem dL_law_259 : uD 1 cL_law 259 (.iaload) 260 := ⟨by decide +kernel, rfl⟩
theorem dL_law_260 : uD 1 cL_law 260 (.aload_n 0) 261 := ⟨by decide +kernel, rfl⟩
theorem dL_law_261 : uD 2 cL_law 261 (.iload 5) 263 := ⟨by decide +kernel, rfl⟩
theorem dL_law_263 : uD 1 cL_law 263 (.iconst 4) 264 := ⟨by decide +kernel, rfl⟩
theorem dL_law_264 : uD 1 cL_law 264 (.iadd) 265 := ⟨by decide +kernel, rfl⟩
theorem dL_law_265 : uD 1 cL_law 265 (.iaload) 266 := ⟨by decide +kernel, rfl⟩
theorem dL_law_266 : uD 1 cL_law 266 (.aload_n 0) 267 := ⟨by decide +kernel, rfl⟩
theorem dL_law_267 : uD 2 cL_law 267 (.iload 5) 269 := ⟨by decide +kernel, rfl⟩
theorem dL_law_269 : uD 1 cL_law 269 (.iconst 5) 270 := ⟨by decide +kernel, rfl⟩
theorem dL_law_270 : uD 1 cL_law 270 (.iadd) 271 := ⟨by decide +kernel, rfl⟩
theorem dL_law_271 : uD 1 cL_law 271 (.iaload) 272 := ⟨by decide +kernel, rfl⟩
theorem dL_law_272 : uD 3 cL_law 272 (.invokevirtual 124) 275 := ⟨by decide +kernel, rfl⟩
theorem dL_law_275 : uD 2 cL_law 275 (.istore 7) 277 := ⟨by decide +kernel, rfl⟩
theorem dL_law_277 : uD 1 cL_law 277 (.aload_n 2) 278 := ⟨by decide +kernel, rfl⟩
theorem dL_law_278 : uD 3 cL_law 278 (.invokevirtual 125) 281 := ⟨by decide +kernel, rfl⟩
theorem dL_law_281 : uD 2 cL_law 281 (.iload 6) 283 := ⟨by decide +kernel, rfl⟩
theorem dL_law_283 : uJ cL_law 283 (fun o => .if_icmp .eq o) 288 286 := ⟨5, by decide +kernel, by decide, rfl⟩
theorem dL_law_286 : uD 1 cL_law 286 (.iconst 0) 287 := ⟨by decide +kernel, rfl⟩
theorem dL_law_287 : uD 1 cL_law 287 (.ireturn) 288 := ⟨by decide +kernel, rfl⟩
theorem dL_law_288 : uD 2 cL_law 288 (.iload 6) 290 := ⟨by decide +kernel, rfl⟩
theorem dL_law_290 : uJ cL_law 290 (fun o => .ifCond .ne o) 305 293 := ⟨15, by decide +kernel, by decide, rfl⟩
theorem dL_law_293 : uD 1 cL_law 293 (.aload_n 3) 294 := ⟨by decide +kernel, rfl⟩
theorem dL_law_294 : uD 1 cL_law 294 (.iconst 0) 295 := ⟨by decide +kernel, rfl⟩
theorem dL_law_295 : uD 1 cL_law 295 (.laload) 296 := ⟨by decide +kernel, rfl⟩
theorem dL_law_296 : uD 2 cL_law 296 (.iload 7) 298 := ⟨by decide +kernel, rfl⟩
theorem dL_law_298 : uD 1 cL_law 298 (.i2l) 299 := ⟨by decide +kernel, rfl⟩
theorem dL_law_299 : uD 1 cL_law 299 (.lcmp) 300 := ⟨by decide +kernel, rfl⟩
theorem dL_law_300 : uJ cL_law 300 (fun o => .ifCond .eq o) 305 303 := ⟨5, by decide +kernel, by decide, rfl⟩
theorem dL_law_303 : uD 1 cL_law 303 (.iconst 0) 304 := ⟨by decide +kernel, rfl⟩
theorem dL_law_304 : uD 1 cL_law 304 (.ireturn) 305 := ⟨by decide +kernel, rfl⟩
theorem dL_law_305 : uJ cL_law 305 (fun o => .goto o) 2116 308 := ⟨1811, by decide +kernel, by decide, rfl⟩
theorem dL_law_308 : uD 1 cL_law 308 (.aload_n 1) 309 := ⟨by decide +kernel, rfl⟩
theorem dL_law_309 : uD 1 cL_law 309 (.aload_n 0) 310 := ⟨by decide +kernel, rfl⟩
theorem dL_law_310 : uD 2 cL_law 310 (.iload 5) 312 := ⟨by decide +kernel, rfl⟩
theorem dL_law_312 : uD 1 cL_law 312 (.iconst 1) 313 := ⟨by decide +kernel, rfl⟩
theorem dL_law_313 : uD 1 cL_law 313 (.iadd) 314 := ⟨by decide +kernel, rfl⟩
theorem dL_law_314 : uD 1 cL_law 314 (.iaload) 315 := ⟨by decide +kernel, rfl⟩
theorem dL_law_315 : uD 1 cL_law 315 (.aload_n 3) 316 := ⟨by decide +kernel, rfl⟩
theorem dL_law_316 : uD 3 cL_law 316 (.invokestatic 128) 319 := ⟨by decide +kernel, rfl⟩
theorem dL_law_319 : uD 2 cL_law 319 (.istore 6) 321 := ⟨by decide +kernel, rfl⟩
theorem dL_law_321 : uD 1 cL_law 321 (.aload_n 2) 322 := ⟨by decide +kernel, rfl⟩
theorem dL_law_322 : uD 1 cL_law 322 (.aload_n 0) 323 := ⟨by decide +kernel, rfl⟩
theorem dL_law_323 : uD 2 cL_law 323 (.iload 5) 325 := ⟨by decide +kernel, rfl⟩
theorem dL_law_325 : uD 1 cL_law 325 (.iconst 1) 326 := ⟨by decide +kernel, rfl⟩
theorem dL_law_326 : uD 1 cL_law 326 (.iadd) 327 := ⟨by decide +kernel, rfl⟩
theorem dL_law_327 : uD 1 cL_law 327 (.iaload) 328 := ⟨by decide +kernel, rfl⟩
theorem dL_law_328 : uD 3 cL_law 328 (.invokevirtual 131) 331 := ⟨by decide +kernel, rfl⟩
theorem dL_law_331 : uD 2 cL_law 331 (.istore 7) 333 := ⟨by decide +kernel, rfl⟩
theorem dL_law_333 : uD 1 cL_law 333 (.aload_n 2) 334 := ⟨by decide +kernel, rfl⟩
theorem dL_law_334 : uD 3 cL_law 334 (.invokevirtual 125) 337 := ⟨by decide +kernel, rfl⟩
theorem dL_law_337 : uD 2 cL_law 337 (.iload 6) 339 := ⟨by decide +kernel, rfl⟩
theorem dL_law_339 : uJ cL_law 339 (fun o => .if_icmp .eq o) 344 342 := ⟨5, by decide +kernel, by decide, rfl⟩
theorem dL_law_342 : uD 1 cL_law 342 (.iconst 0) 343 := ⟨by decide +kernel, rfl⟩
theorem dL_law_343 : uD 1 cL_law 343 (.ireturn) 344 := ⟨by decide +kernel, rfl⟩
theorem dL_law_344 : uD 2 cL_law 344 (.iload 6) 346 := ⟨by decide +kernel, rfl⟩
theorem dL_law_346 : uJ cL_law 346 (fun o => .ifCond .ne o) 361 349 := ⟨15, by decide +kernel, by decide, rfl⟩
theorem dL_law_349 : uD 1 cL_law 349 (.aload_n 3) 350 := ⟨by decide +kernel, rfl⟩
theorem dL_law_350 : uD 1 cL_law 350 (.iconst 0) 351 := ⟨by decide +kernel, rfl⟩
theorem dL_law_351 : uD 1 cL_law 351 (.laload) 352 := ⟨by decide +kernel, rfl⟩
theorem dL_law_352 : uD 2 cL_law 352 (.iload 7) 354 := ⟨by decide +kernel, rfl⟩
theorem dL_law_354 : uD 1 cL_law 354 (.i2l) 355 := ⟨by decide +kernel, rfl⟩
theorem dL_law_355 : uD 1 cL_law 355 (.lcmp) 356 := ⟨by decide +kernel, rfl⟩
theorem dL_law_356 : uJ cL_law 356 (fun o => .ifCond .eq o) 361 359 := ⟨5, by decide +kernel, by decide, rfl⟩
theorem dL_law_359 : uD 1 cL_law 359 (.iconst 0) 360 := ⟨by decide +kernel, rfl⟩
theorem dL_law_360 : uD 1 cL_law 360 (.ireturn) 361 := ⟨by decide +kernel, rfl⟩
theorem dL_law_361 : uJ cL_law 361 (fun o => .goto o) 2116 364 := ⟨1755, by decide +kernel, by decide, rfl⟩
theorem dL_law_364 : uD 1 cL_law 364 (.aload_n 1) 365 := ⟨by decide +kernel, rfl⟩
theorem dL_law_365 : uD 1 cL_law 365 (.aload_n 3) 366 := ⟨by decide +kernel, rfl⟩
theorem dL_law_366 : uD 3 cL_law 366 (.invokestatic 132) 369 := ⟨by decide +kernel, rfl⟩
theorem dL_law_369 : uD 2 cL_law 369 (.istore 6) 371 := ⟨by decide +kernel, rfl⟩
theorem dL_law_371 : uD 1 cL_law 371 (.aload_n 2) 372 := ⟨by decide +kernel, rfl⟩
theorem dL_law_372 : uD 3 cL_law 372 (.invokevirtual 135) 375 := ⟨by decide +kernel, rfl⟩
theorem dL_law_375 : uD 2 cL_law 375 (.istore 7) 377 := ⟨by decide +kernel, rfl⟩
theorem dL_law_377 : uD 1 cL_law 377 (.aload_n 2) 378 := ⟨by decide +kernel, rfl⟩
theorem dL_law_378 : uD 3 cL_law 378 (.invokevirtual 125) 381 := ⟨by decide +kernel, rfl⟩
theorem dL_law_381 : uD 2 cL_law 381 (.iload 6) 383 := ⟨by decide +kernel, rfl⟩
theorem dL_law_383 : uJ cL_law 383 (fun o => .if_icmp .eq o) 388 386 := ⟨5, by decide +kernel, by decide, rfl⟩
theorem dL_law_386 : uD 1 cL_law 386 (.iconst 0) 387 := ⟨by decide +kernel, rfl⟩
theorem dL_law_387 : uD 1 cL_law 387 (.ireturn) 388 := ⟨by decide +kernel, rfl⟩
theorem dL_law_388 : uD 2 cL_law 388 (.iload 6) 390 := ⟨by decide +kernel, rfl⟩
theorem dL_law_390 : uJ cL_law 390 (fun o => .ifCond .ne o) 405 393 := ⟨15, by decide +kernel, by decide, rfl⟩
theorem dL_law_393 : uD 1 cL_law 393 (.aload_n 3) 394 := ⟨by decide +kernel, rfl⟩
theorem dL_law_394 : uD 1 cL_law 394 (.iconst 0) 395 := ⟨by decide +kernel, rfl⟩
theorem dL_law_395 : uD 1 cL_law 395 (.laload) 396 := ⟨by decide +kernel, rfl⟩
theorem dL_law_396 : uD 2 cL_law 396 (.iload 7) 398 := ⟨by decide +kernel, rfl⟩
theorem dL_law_398 : uD 1 cL_law 398 (.i2l) 399 := ⟨by decide +kernel, rfl⟩
theorem dL_law_399 : uD 1 cL_law 399 (.lcmp) 400 := ⟨by decide +kernel, rfl⟩
theorem dL_law_400 : uJ cL_law 400 (fun o => .ifCond .eq o) 405 403 := ⟨5, by decide +kernel, by decide, rfl⟩
theorem dL_law_403 : uD 1 cL_law 403 (.iconst 0) 404 := ⟨by decide +kernel, rfl⟩
theorem dL_law_404 : uD 1 cL_law 404 (.ireturn) 405 := ⟨by decide +kernel, rfl⟩
theorem dL_law_405 : uJ cL_law 405 (fun o => .goto o) 2116 408 := ⟨1711, by decide +kernel, by decide, rfl⟩
theorem dL_law_408 : uD 1 cL_law 408 (.aload_n 1) 409 := ⟨by decide +kernel, rfl⟩
theorem dL_law_409 : uD 3 cL_law 409 (.invokevirtual 136) 412 := ⟨by decide +kernel, rfl⟩
theorem dL_law_412 : uD 1 cL_law 412 (.aload_n 2) 413 := ⟨by decide +kernel, rfl⟩
theorem dL_law_413 : uD 3 cL_law 413 (.invokevirtual 139) 416 := ⟨by decide +kernel, rfl⟩
theorem dL_law_416 : uJ cL_law 416 (fun o => .if_icmp .eq o) 2116 419 := ⟨1700, by decide +kernel, by decide, rfl⟩
theorem dL_law_419 : uD 1 cL_law 419 (.iconst 0) 420 := ⟨by decide +kernel, rfl⟩
theorem dL_law_420 : uD 1 cL_law 420 (.ireturn) 421 := ⟨by decide +kernel, rfl⟩
theorem dL_law_421 : uD 1 cL_law 421 (.aload_n 1) 422 := ⟨by decide +kernel, rfl⟩
theorem dL_law_422 : uD 3 cL_law 422 (.invokevirtual 140) 425 := ⟨by decide +kernel, rfl⟩
theorem dL_law_425 : uD 1 cL_law 425 (.aload_n 2) 426 := ⟨by decide +kernel, rfl⟩
theorem dL_law_426 : uD 3 cL_law 426 (.invokevirtual 143) 429 := ⟨by decide +kernel, rfl⟩
theorem dL_law_429 : uJ cL_law 429 (fun o => .if_icmp .eq o) 2116 432 := ⟨1687, by decide +kernel, by decide, rfl⟩
theorem dL_law_432 : uD 1 cL_law 432 (.iconst 0) 433 := ⟨by decide +kernel, rfl⟩
theorem dL_law_433 : uD 1 cL_law 433 (.ireturn) 434 := ⟨by decide +kernel, rfl⟩
theorem dL_law_434 : uD 1 cL_law 434 (.aload_n 1) 435 := ⟨by decide +kernel, rfl⟩
theorem dL_law_435 : uD 1 cL_law 435 (.aload_n 0) 436 := ⟨by decide +kernel, rfl⟩
theorem dL_law_436 : uD 2 cL_law 436 (.iload 5) 438 := ⟨by decide +kernel, rfl⟩
theorem dL_law_438 : uD 1 cL_law 438 (.iconst 1) 439 := ⟨by decide +kernel, rfl⟩
theorem dL_law_439 : uD 1 cL_law 439 (.iadd) 440 := ⟨by decide +kernel, rfl⟩
theorem dL_law_440 : uD 1 cL_law 440 (.iaload) 441 := ⟨by decide +kernel, rfl⟩
theorem dL_law_441 : uD 1 cL_law 441 (.aload_n 3) 442 := ⟨by decide +kernel, rfl⟩
theorem dL_law_442 : uD 3 cL_law 442 (.invokestatic 144) 445 := ⟨by decide +kernel, rfl⟩
theorem dL_law_445 : uD 2 cL_law 445 (.istore 6) 447 := ⟨by decide +kernel, rfl⟩
theorem dL_law_447 : uD 1 cL_law 447 (.aload_n 2) 448 := ⟨by decide +kernel, rfl⟩
theorem dL_law_448 : uD 1 cL_law 448 (.aload_n 0) 449 := ⟨by decide +kernel, rfl⟩
theorem dL_law_449 : uD 2 cL_law 449 (.iload 5) 451 := ⟨by decide +kernel, rfl⟩
theorem dL_law_451 : uD 1 cL_law 451 (.iconst 1) 452 := ⟨by decide +kernel, rfl⟩
theorem dL_law_452 : uD 1 cL_law 452 (.iadd) 453 := ⟨by decide +kernel, rfl⟩
theorem dL_law_453 : uD 1 cL_law 453 (.iaload) 454 := ⟨by decide +kernel, rfl⟩
theorem dL_law_454 : uD 3 cL_law 454 (.invokevirtual 146) 457 := ⟨by decide +kernel, rfl⟩
theorem dL_law_457 : uD 2 cL_law 457 (.istore 7) 459 := ⟨by decide +kernel, rfl⟩
theorem dL_law_459 : uD 1 cL_law 459 (.aload_n 2) 460 := ⟨by decide +kernel, rfl⟩
theorem dL_law_460 : uD 3 cL_law 460 (.invokevirtual 125) 463 := ⟨by decide +kernel, rfl⟩
theorem dL_law_463 : uD 2 cL_law 463 (.iload 6) 465 := ⟨by decide +kernel, rfl⟩
theorem dL_law_465 : uJ cL_law 465 (fun o => .if_icmp .eq o) 470 468 := ⟨5, by decide +kernel, by decide, rfl⟩
theorem dL_law_468 : uD 1 cL_law 468 (.iconst 0) 469 := ⟨by decide +kernel, rfl⟩
theorem dL_law_469 : uD 1 cL_law 469 (.ireturn) 470 := ⟨by decide +kernel, rfl⟩
theorem dL_law_470 : uD 2 cL_law 470 (.iload 6) 472 := ⟨by decide +kernel, rfl⟩
theorem dL_law_472 : uJ cL_law 472 (fun o => .ifCond .ne o) 487 475 := ⟨15, by decide +kernel, by decide, rfl⟩
theorem dL_law_475 : uD 1 cL_law 475 (.aload_n 3) 476 := ⟨by decide +kernel, rfl⟩
theorem dL_law_476 : uD 1 cL_law 476 (.iconst 0) 477 := ⟨by decide +kernel, rfl⟩
theorem dL_law_477 : uD 1 cL_law 477 (.laload) 478 := ⟨by decide +kernel, rfl⟩
theorem dL_law_478 : uD 2 cL_law 478 (.iload 7) 480 := ⟨by decide +kernel, rfl⟩
theorem dL_law_480 : uD 1 cL_law 480 (.i2l) 481 := ⟨by decide +kernel, rfl⟩
theorem dL_law_481 : uD 1 cL_law 481 (.lcmp) 482 := ⟨by decide +kernel, rfl⟩
theorem dL_law_482 : uJ cL_law 482 (fun o => .ifCond .eq o) 487 485 := ⟨5, by decide +kernel, by decide, rfl⟩
theorem dL_law_485 : uD 1 cL_law 485 (.iconst 0) 486 := ⟨by decide +kernel, rfl⟩
theorem dL_law_486 : uD 1 cL_law 486 (.ireturn) 487 := ⟨by decide +kernel, rfl⟩
theorem dL_law_487 : uJ cL_law 487 (fun o => .goto o) 2116 490 := ⟨1629, by decide +kernel, by decide, rfl⟩
theorem dL_law_490 : uD 1 cL_law 490 (.aload_n 1) 491 := ⟨by decide +kernel, rfl⟩
theorem dL_law_491 : uD 1 cL_law 491 (.aload_n 0) 492 := ⟨by decide +kernel, rfl⟩
theorem dL_law_492 : uD 2 cL_law 492 (.iload 5) 494 := ⟨by decide +kernel, rfl⟩
theorem dL_law_494 : uD 1 cL_law 494 (.iconst 1) 495 := ⟨by decide +kernel, rfl⟩
theorem dL_law_495 : uD 1 cL_law 495 (.iadd) 496 := ⟨by decide +kernel, rfl⟩
theorem dL_law_496 : uD 1 cL_law 496 (.iaload) 497 := ⟨by decide +kernel, rfl⟩
theorem dL_law_497 : uD 1 cL_law 497 (.aload_n 0) 498 := ⟨by decide +kernel, rfl⟩
theorem dL_law_498 : uD 2 cL_law 498 (.iload 5) 500 := ⟨by decide +kernel, rfl⟩
theorem dL_law_500 : uD 1 cL_law 500 (.iconst 2) 501 := ⟨by decide +kernel, rfl⟩
theorem dL_law_501 : uD 1 cL_law 501 (.iadd) 502 := ⟨by decide +kernel, rfl⟩
theorem dL_law_502 : uD 1 cL_law 502 (.iaload) 503 := ⟨by decide +kernel, rfl⟩
theorem dL_law_503 : uD 1 cL_law 503 (.aload_n 3) 504 := ⟨by decide +kernel, rfl⟩
theorem dL_law_504 : uD 3 cL_law 504 (.invokestatic 147) 507 := ⟨by decide +kernel, rfl⟩
theorem dL_law_507 : uD 2 cL_law 507 (.istore 6) 509 := ⟨by decide +kernel, rfl⟩
theorem dL_law_509 : uD 1 cL_law 509 (.aload_n 2) 510 := ⟨by decide +kernel, rfl⟩
theorem dL_law_510 : uD 1 cL_law 510 (.aload_n 0) 511 := ⟨by decide +kernel, rfl⟩
theorem dL_law_511 : uD 2 cL_law 511 (.iload 5) 513 := ⟨by decide +kernel, rfl⟩
theorem dL_law_513 : uD 1 cL_law 513 (.iconst 1) 514 := ⟨by decide +kernel, rfl⟩
theorem dL_law_514 : uD 1 cL_law 514 (.iadd) 515 := ⟨by decide +kernel, rfl⟩
theorem dL_law_515 : uD 1 cL_law 515 (.iaload) 516 := ⟨by decide +kernel, rfl⟩
theorem dL_law_516 : uD 1 cL_law 516 (.aload_n 0) 517 := ⟨by decide +kernel, rfl⟩
theorem dL_law_517 : uD 2 cL_law 517 (.iload 5) 519 := ⟨by decide +kernel, rfl⟩
theorem dL_law_519 : uD 1 cL_law 519 (.iconst 2) 520 := ⟨by decide +kernel, rfl⟩
theorem dL_law_520 : uD 1 cL_law 520 (.iadd) 521 := ⟨by decide +kernel, rfl⟩
theorem dL_law_521 : uD 1 cL_law 521 (.iaload) 522 := ⟨by decide +kernel, rfl⟩
theorem dL_law_522 : uD 3 cL_law 522 (.invokevirtual 150) 525 := ⟨by decide +kernel, rfl⟩
theorem dL_law_525 : uD 2 cL_law 525 (.istore 7) 527 := ⟨by decide +kernel, rfl⟩
theorem dL_law_527 : uD 1 cL_law 527 (.aload_n 2) 528 := ⟨by decide +kernel, rfl⟩
theorem dL_law_528 : uD 3 cL_law 528 (.invokevirtual 125) 531 := ⟨by decide +kernel, rfl⟩
theorem dL_law_531 : uD 2 cL_law 531 (.iload 6) 533 := ⟨by decide +kernel, rfl⟩
theorem dL_law_533 : uJ cL_law 533 (fun o => .if_icmp .eq o) 538 536 := ⟨5, by decide +kernel, by decide, rfl⟩
theorem dL_law_536 : uD 1 cL_law 536 (.iconst 0) 537 := ⟨by decide +kernel, rfl⟩
theorem dL_law_537 : uD 1 cL_law 537 (.ireturn) 538 := ⟨by decide +kernel, rfl⟩
theorem dL_law_538 : uD 2 cL_law 538 (.iload 6) 540 := ⟨by decide +kernel, rfl⟩
theorem dL_law_540 : uJ cL_law 540 (fun o => .ifCond .ne o) 555 543 := ⟨15, by decide +kernel, by decide, rfl⟩
theorem dL_law_543 : uD 1 cL_law 543 (.aload_n 3) 544 := ⟨by decide +kernel, rfl⟩
theorem dL_law_544 : uD 1 cL_law 544 (.iconst 0) 545 := ⟨by decide +kernel, rfl⟩
theorem dL_law_545 : uD 1 cL_law 545 (.laload) 546 := ⟨by decide +kernel, rfl⟩
theorem dL_law_546 : uD 2 cL_law 546 (.iload 7) 548 := ⟨by decide +kernel, rfl⟩
theorem dL_law_548 : uD 1 cL_law 548 (.i2l) 549 := ⟨by decide +kernel, rfl⟩
theorem dL_law_549 : uD 1 cL_law 549 (.lcmp) 550 := ⟨by decide +kernel, rfl⟩
theorem dL_law_550 : uJ cL_law 550 (fun o => .ifCond .eq o) 555 553 := ⟨5, by decide +kernel, by decide, rfl⟩
theorem dL_law_553 : uD 1 cL_law 553 (.iconst 0) 554 := ⟨by decide +kernel, rfl⟩
theorem dL_law_554 : uD 1 cL_law 554 (.ireturn) 555 := ⟨by decide +kernel, rfl⟩
theorem dL_law_555 : uJ cL_law 555 (fun o => .goto o) 2116 558 := ⟨1561, by decide +kernel, by decide, rfl⟩
theorem dL_law_558 : uD 1 cL_law 558 (.aload_n 1) 559 := ⟨by decide +kernel, rfl⟩
theorem dL_law_559 : uD 1 cL_law 559 (.aload_n 0) 560 := ⟨by decide +kernel, rfl⟩
theorem dL_law_560 : uD 2 cL_law 560 (.iload 5) 562 := ⟨by decide +kernel, rfl⟩
theorem dL_law_562 : uD 1 cL_law 562 (.iconst 1) 563 := ⟨by decide +kernel, rfl⟩
theorem dL_law_563 : uD 1 cL_law 563 (.iadd) 564 := ⟨by decide +kernel, rfl⟩
theorem dL_law_564 : uD 1 cL_law 564 (.iaload) 565 := ⟨by decide +kernel, rfl⟩
theorem dL_law_565 : uD 1 cL_law 565 (.aload_n 0) 566 := ⟨by decide +kernel, rfl⟩
theorem dL_law_566 : uD 2 cL_law 566 (.iload 5) 568 := ⟨by decide +kernel, rfl⟩
theorem dL_law_568 : uD 1 cL_law 568 (.iconst 2) 569 := ⟨by decide +kernel, rfl⟩
theorem dL_law_569 : uD 1 cL_law 569 (.iadd) 570 := ⟨by decide +kernel, rfl⟩
theorem dL_law_570 : uD 1 cL_law 570 (.iaload) 571 := ⟨by decide +kernel, rfl⟩
theorem dL_law_571 : uD 1 cL_law 571 (.aload_n 3) 572 := ⟨by decide +kernel, rfl⟩
theorem dL_law_572 : uD 3 cL_law 572 (.invokestatic 151) 575 := ⟨by decide +kernel, rfl⟩
theorem dL_law_575 : uD 2 cL_law 575 (.istore 6) 577 := ⟨by decide +kernel, rfl⟩
theorem dL_law_577 : uD 1 cL_law 577 (.aload_n 2) 578 := ⟨by decide +kernel, rfl⟩
theorem dL_law_578 : uD 1 cL_law 578 (.aload_n 0) 579 := ⟨by decide +kernel, rfl⟩
theorem dL_law_579 : uD 2 cL_law 579 (.iload 5) 581 := ⟨by decide +kernel, rfl⟩
theorem dL_law_581 : uD 1 cL_law 581 (.iconst 1) 582 := ⟨by decide +kernel, rfl⟩
theorem dL_law_582 : uD 1 cL_law 582 (.iadd) 583 := ⟨by decide +kernel, rfl⟩
theorem dL_law_583 : uD 1 cL_law 583 (.iaload) 584 := ⟨by decide +kernel, rfl⟩
theorem dL_law_584 : uD 1 cL_law 584 (.aload_n 0) 585 := ⟨by decide +kernel, rfl⟩
theorem dL_law_585 : uD 2 cL_law 585 (.iload 5) 587 := ⟨by decide +kernel, rfl⟩
theorem dL_law_587 : uD 1 cL_law 587 (.iconst 2) 588 := ⟨by decide +kernel, rfl⟩
theorem dL_law_588 : uD 1 cL_law 588 (.iadd) 589 := ⟨by decide +kernel, rfl⟩
theorem dL_law_589 : uD 1 cL_law 589 (.iaload) 590 := ⟨by decide +kernel, rfl⟩
theorem dL_law_590 : uD 3 cL_law 590 (.invokevirtual 153) 593 := ⟨by decide +kernel, rfl⟩
theorem dL_law_593 : uD 2 cL_law 593 (.istore 7) 595 := ⟨by decide +kernel, rfl⟩
theorem dL_law_595 : uD 1 cL_law 595 (.aload_n 2) 596 := ⟨by decide +kernel, rfl⟩
theorem dL_law_596 : uD 3 cL_law 596 (.invokevirtual 125) 599 := ⟨by decide +kernel, rfl⟩
theorem dL_law_599 : uD 2 cL_law 599 (.iload 6) 601 := ⟨by decide +kernel, rfl⟩
theorem dL_law_601 : uJ cL_law 601 (fun o => .if_icmp .eq o) 606 604 := ⟨5, by decide +kernel, by decide, rfl⟩
theorem dL_law_604 : uD 1 cL_law 604 (.iconst 0) 605 := ⟨by decide +kernel, rfl⟩
theorem dL_law_605 : uD 1 cL_law 605 (.ireturn) 606 := ⟨by decide +kernel, rfl⟩
theorem dL_law_606 : uD 2 cL_law 606 (.iload 6) 608 := ⟨by decide +kernel, rfl⟩
theorem dL_law_608 : uJ cL_law 608 (fun o => .ifCond .ne o) 623 611 := ⟨15, by decide +kernel, by decide, rfl⟩
theorem dL_law_611 : uD 1 cL_law 611 (.aload_n 3) 612 := ⟨by decide +kernel, rfl⟩
theorem dL_law_612 : uD 1 cL_law 612 (.iconst 0) 613 := ⟨by decide +kernel, rfl⟩
theorem dL_law_613 : uD 1 cL_law 613 (.laload) 614 := ⟨by decide +kernel, rfl⟩
theorem dL_law_614 : uD 2 cL_law 614 (.iload 7) 616 := ⟨by decide +kernel, rfl⟩
theorem dL_law_616 : uD 1 cL_law 616 (.i2l) 617 := ⟨by decide +kernel, rfl⟩
theorem dL_law_617 : uD 1 cL_law 617 (.lcmp) 618 := ⟨by decide +kernel, rfl⟩
theorem dL_law_618 : uJ cL_law 618 (fun o => .ifCond .eq o) 623 621 := ⟨5, by decide +kernel, by decide, rfl⟩
theorem dL_law_621 : uD 1 cL_law 621 (.iconst 0) 622 := ⟨by decide +kernel, rfl⟩
theorem dL_law_622 : uD 1 cL_law 622 (.ireturn) 623 := ⟨by decide +kernel, rfl⟩
theorem dL_law_623 : uJ cL_law 623 (fun o => .goto o) 2116 626 := ⟨1493, by decide +kernel, by decide, rfl⟩
theorem dL_law_626 : uD 1 cL_law 626 (.aload_n 1) 627 := ⟨by decide +kernel, rfl⟩
theorem dL_law_627 : uD 1 cL_law 627 (.aload_n 0) 628 := ⟨by decide +kernel, rfl⟩
theorem dL_law_628 : uD 2 cL_law 628 (.iload 5) 630 := ⟨by decide +kernel, rfl⟩
theorem dL_law_630 : uD 1 cL_law 630 (.iconst 1) 631 := ⟨by decide +kernel, rfl⟩
theorem dL_law_631 : uD 1 cL_law 631 (.iadd) 632 := ⟨by decide +kernel, rfl⟩
theorem dL_law_632 : uD 1 cL_law 632 (.iaload) 633 := ⟨by decide +kernel, rfl⟩
theorem dL_law_633 : uD 1 cL_law 633 (.aload_n 0) 634 := ⟨by decide +kernel, rfl⟩
theorem dL_law_634 : uD 2 cL_law 634 (.iload 5) 636 := ⟨by decide +kernel, rfl⟩
theorem dL_law_636 : uD 1 cL_law 636 (.iconst 2) 637 := ⟨by decide +kernel, rfl⟩
theorem dL_law_637 : uD 1 cL_law 637 (.iadd) 638 := ⟨by decide +kernel, rfl⟩
theorem dL_law_638 : uD 1 cL_law 638 (.iaload) 639 := ⟨by decide +kernel, rfl⟩
theorem dL_law_639 : uD 1 cL_law 639 (.aload_n 3) 640 := ⟨by decide +kernel, rfl⟩
theorem dL_law_640 : uD 3 cL_law 640 (.invokestatic 154) 643 := ⟨by decide +kernel, rfl⟩
theorem dL_law_643 : uD 2 cL_law 643 (.istore 6) 645 := ⟨by decide +kernel, rfl⟩
theorem dL_law_645 : uD 1 cL_law 645 (.aload_n 2) 646 := ⟨by decide +kernel, rfl⟩
theorem dL_law_646 : uD 1 cL_law 646 (.aload_n 0) 647 := ⟨by decide +kernel, rfl⟩
theorem dL_law_647 : uD 2 cL_law 647 (.iload 5) 649 := ⟨by decide +kernel, rfl⟩
theorem dL_law_649 : uD 1 cL_law 649 (.iconst 1) 650 := ⟨by decide +kernel, rfl⟩
theorem dL_law_650 : uD 1 cL_law 650 (.iadd) 651 := ⟨by decide +kernel, rfl⟩
theorem dL_law_651 : uD 1 cL_law 651 (.iaload) 652 := ⟨by decide +kernel, rfl⟩
theorem dL_law_652 : uD 1 cL_law 652 (.aload_n 0) 653 := ⟨by decide +kernel, rfl⟩
theorem dL_law_653 : uD 2 cL_law 653 (.iload 5) 655 := ⟨by decide +kernel, rfl⟩
theorem dL_law_655 : uD 1 cL_law 655 (.iconst 2) 656 := ⟨by decide +kernel, rfl⟩
theorem dL_law_656 : uD 1 cL_law 656 (.iadd) 657 := ⟨by decide +kernel, rfl⟩
theorem dL_law_657 : uD 1 cL_law 657 (.iaload) 658 := ⟨by decide +kernel, rfl⟩
theorem dL_law_658 : uD 3 cL_law 658 (.invokevirtual 156) 661 := ⟨by decide +kernel, rfl⟩
theorem dL_law_661 : uD 2 cL_law 661 (.istore 7) 663 := ⟨by decide +kernel, rfl⟩
theorem dL_law_663 : uD 1 cL_law 663 (.aload_n 2) 664 := ⟨by decide +kernel, rfl⟩
theorem dL_law_664 : uD 3 cL_law 664 (.invokevirtual 125) 667 := ⟨by decide +kernel, rfl⟩
theorem dL_law_667 : uD 2 cL_law 667 (.iload 6) 669 := ⟨by decide +kernel, rfl⟩
theorem dL_law_669 : uJ cL_law 669 (fun o => .if_icmp .eq o) 674 672 := ⟨5, by decide +kernel, by decide, rfl⟩
theorem dL_law_672 : uD 1 cL_law 672 (.iconst 0) 673 := ⟨by decide +kernel, rfl⟩
theorem dL_law_673 : uD 1 cL_law 673 (.ireturn) 674 := ⟨by decide +kernel, rfl⟩
theorem dL_law_674 : uD 2 cL_law 674 (.iload 6) 676 := ⟨by decide +kernel, rfl⟩
theorem dL_law_676 : uJ cL_law 676 (fun o => .ifCond .ne o) 691 679 := ⟨15, by decide +kernel, by decide, rfl⟩
theorem dL_law_679 : uD 1 cL_law 679 (.aload_n 3) 680 := ⟨by decide +kernel, rfl⟩
theorem dL_law_680 : uD 1 cL_law 680 (.iconst 0) 681 := ⟨by decide +kernel, rfl⟩
theorem dL_law_681 : uD 1 cL_law 681 (.laload) 682 := ⟨by decide +kernel, rfl⟩
theorem dL_law_682 : uD 2 cL_law 682 (.iload 7) 684 := ⟨by decide +kernel, rfl⟩
theorem dL_law_684 : uD 1 cL_law 684 (.i2l) 685 := ⟨by decide +kernel, rfl⟩
theorem dL_law_685 : uD 1 cL_law 685 (.lcmp) 686 := ⟨by decide +kernel, rfl⟩
theorem dL_law_686 : uJ cL_law 686 (fun o => .ifCond .eq o) 691 689 := ⟨5, by decide +kernel, by decide, rfl⟩
theorem dL_law_689 : uD 1 cL_law 689 (.iconst 0) 690 := ⟨by decide +kernel, rfl⟩
theorem dL_law_690 : uD 1 cL_law 690 (.ireturn) 691 := ⟨by decide +kernel, rfl⟩
theorem dL_law_691 : uJ cL_law 691 (fun o => .goto o) 2116 694 := ⟨1425, by decide +kernel, by decide, rfl⟩
theorem dL_law_694 : uD 1 cL_law 694 (.aload_n 1) 695 := ⟨by decide +kernel, rfl⟩
theorem dL_law_695 : uD 1 cL_law 695 (.aload_n 3) 696 := ⟨by decide +kernel, rfl⟩
theorem dL_law_696 : uD 3 cL_law 696 (.invokestatic 157) 699 := ⟨by decide +kernel, rfl⟩
theorem dL_law_699 : uD 2 cL_law 699 (.istore 6) 701 := ⟨by decide +kernel, rfl⟩
theorem dL_law_701 : uD 1 cL_law 701 (.aload_n 2) 702 := ⟨by decide +kernel, rfl⟩
theorem dL_law_702 : uD 3 cL_law 702 (.invokevirtual 159) 705 := ⟨by decide +kernel, rfl⟩
theorem dL_law_705 : uD 2 cL_law 705 (.istore 7) 707 := ⟨by decide +kernel, rfl⟩
theorem dL_law_707 : uD 1 cL_law 707 (.aload_n 2) 708 := ⟨by decide +kernel, rfl⟩
theorem dL_law_708 : uD 3 cL_law 708 (.invokevirtual 125) 711 := ⟨by decide +kernel, rfl⟩
theorem dL_law_711 : uD 2 cL_law 711 (.iload 6) 713 := ⟨by decide +kernel, rfl⟩
theorem dL_law_713 : uJ cL_law 713 (fun o => .if_icmp .eq o) 718 716 := ⟨5, by decide +kernel, by decide, rfl⟩
theorem dL_law_716 : uD 1 cL_law 716 (.iconst 0) 717 := ⟨by decide +kernel, rfl⟩
theorem dL_law_717 : uD 1 cL_law 717 (.ireturn) 718 := ⟨by decide +kernel, rfl⟩
theorem dL_law_718 : uD 2 cL_law 718 (.iload 6) 720 := ⟨by decide +kernel, rfl⟩
theorem dL_law_720 : uJ cL_law 720 (fun o => .ifCond .ne o) 735 723 := ⟨15, by decide +kernel, by decide, rfl⟩
theorem dL_law_723 : uD 1 cL_law 723 (.aload_n 3) 724 := ⟨by decide +kernel, rfl⟩
theorem dL_law_724 : uD 1 cL_law 724 (.iconst 0) 725 := ⟨by decide +kernel, rfl⟩
theorem dL_law_725 : uD 1 cL_law 725 (.laload) 726 := ⟨by decide +kernel, rfl⟩
theorem dL_law_726 : uD 2 cL_law 726 (.iload 7) 728 := ⟨by decide +kernel, rfl⟩
theorem dL_law_728 : uD 1 cL_law 728 (.i2l) 729 := ⟨by decide +kernel, rfl⟩
theorem dL_law_729 : uD 1 cL_law 729 (.lcmp) 730 := ⟨by decide +kernel, rfl⟩
theorem dL_law_730 : uJ cL_law 730 (fun o => .ifCond .eq o) 735 733 := ⟨5, by decide +kernel, by decide, rfl⟩
theorem dL_law_733 : uD 1 cL_law 733 (.iconst 0) 734 := ⟨by decide +kernel, rfl⟩
theorem dL_law_734 : uD 1 cL_law 734 (.ireturn) 735 := ⟨by decide +kernel, rfl⟩
theorem dL_law_735 : uJ cL_law 735 (fun o => .goto o) 2116 738 := ⟨1381, by decide +kernel, by decide, rfl⟩
theorem dL_law_738 : uD 1 cL_law 738 (.aload_n 1) 739 := ⟨by decide +kernel, rfl⟩
theorem dL_law_739 : uD 1 cL_law 739 (.aload_n 0) 740 := ⟨by decide +kernel, rfl⟩
theorem dL_law_740 : uD 2 cL_law 740 (.iload 5) 742 := ⟨by decide +kernel, rfl⟩
theorem dL_law_742 : uD 1 cL_law 742 (.iconst 1) 743 := ⟨by decide +kernel, rfl⟩
theorem dL_law_743 : uD 1 cL_law 743 (.iadd) 744 := ⟨by decide +kernel, rfl⟩
theorem dL_law_744 : uD 1 cL_law 744 (.iaload) 745 := ⟨by decide +kernel, rfl⟩
theorem dL_law_745 : uD 1 cL_law 745 (.aload_n 3) 746 := ⟨by decide +kernel, rfl⟩
theorem dL_law_746 : uD 3 cL_law 746 (.invokestatic 160) 749 := ⟨by decide +kernel, rfl⟩
theorem dL_law_749 : uD 2 cL_law 749 (.istore 6) 751 := ⟨by decide +kernel, rfl⟩
theorem dL_law_751 : uD 1 cL_law 751 (.aload_n 2) 752 := ⟨by decide +kernel, rfl⟩
theorem dL_law_752 : uD 1 cL_law 752 (.aload_n 0) 753 := ⟨by decide +kernel, rfl⟩
theorem dL_law_753 : uD 2 cL_law 753 (.iload 5) 755 := ⟨by decide +kernel, rfl⟩
theorem dL_law_755 : uD 1 cL_law 755 (.iconst 1) 756 := ⟨by decide +kernel, rfl⟩
theorem dL_law_756 : uD 1 cL_law 756 (.iadd) 757 := ⟨by decide +kernel, rfl⟩
theorem dL_law_757 : uD 1 cL_law 757 (.iaload) 758 := ⟨by decide +kernel, rfl⟩
theorem dL_law_758 : uD 3 cL_law 758 (.invokevirtual 162) 761 := ⟨by decide +kernel, rfl⟩
theorem dL_law_761 : uD 2 cL_law 761 (.istore 7) 763 := ⟨by decide +kernel, rfl⟩
theorem dL_law_763 : uD 1 cL_law 763 (.aload_n 2) 764 := ⟨by decide +kernel, rfl⟩
theorem dL_law_764 : uD 3 cL_law 764 (.invokevirtual 125) 767 := ⟨by decide +kernel, rfl⟩
theorem dL_law_767 : uD 2 cL_law 767 (.iload 6) 769 := ⟨by decide +kernel, rfl⟩
theorem dL_law_769 : uJ cL_law 769 (fun o => .if_icmp .eq o) 774 772 := ⟨5, by decide +kernel, by decide, rfl⟩
theorem dL_law_772 : uD 1 cL_law 772 (.iconst 0) 773 := ⟨by decide +kernel, rfl⟩
theorem dL_law_773 : uD 1 cL_law 773 (.ireturn) 774 := ⟨by decide +kernel, rfl⟩
theorem dL_law_774 : uD 2 cL_law 774 (.iload 6) 776 := ⟨by decide +kernel, rfl⟩
theorem dL_law_776 : uJ cL_law 776 (fun o => .ifCond .ne o) 791 779 := ⟨15, by decide +kernel, by decide, rfl⟩
theorem dL_law_779 : uD 1 cL_law 779 (.aload_n 3) 780 := ⟨by decide +kernel, rfl⟩
theorem dL_law_780 : uD 1 cL_law 780 (.iconst 0) 781 := ⟨by decide +kernel, rfl⟩
theorem dL_law_781 : uD 1 cL_law 781 (.laload) 782 := ⟨by decide +kernel, rfl⟩
theorem dL_law_782 : uD 2 cL_law 782 (.iload 7) 784 := ⟨by decide +kernel, rfl⟩
theorem dL_law_784 : uD 1 cL_law 784 (.i2l) 785 := ⟨by decide +kernel, rfl⟩
theorem dL_law_785 : uD 1 cL_law 785 (.lcmp) 786 := ⟨by decide +kernel, rfl⟩
theorem dL_law_786 : uJ cL_law 786 (fun o => .ifCond .eq o) 791 789 := ⟨5, by decide +kernel, by decide, rfl⟩
theorem dL_law_789 : uD 1 cL_law 789 (.iconst 0) 790 := ⟨by decide +kernel, rfl⟩
theorem dL_law_790 : uD 1 cL_law 790 (.ireturn) 791 := ⟨by decide +kernel, rfl⟩
theorem dL_law_791 : uJ cL_law 791 (fun o => .goto o) 2116 794 := ⟨1325, by decide +kernel, by decide, rfl⟩
theorem dL_law_794 : uD 1 cL_law 794 (.aload_n 1) 795 := ⟨by decide +kernel, rfl⟩
theorem dL_law_795 : uD 1 cL_law 795 (.aload_n 0) 796 := ⟨by decide +kernel, rfl⟩
theorem dL_law_796 : uD 2 cL_law 796 (.iload 5) 798 := ⟨by decide +kernel, rfl⟩
theorem dL_law_798 : uD 1 cL_law 798 (.iconst 1) 799 := ⟨by decide +kernel, rfl⟩
theorem dL_law_799 : uD 1 cL_law 799 (.iadd) 800 := ⟨by decide +kernel, rfl⟩
theorem dL_law_800 : uD 1 cL_law 800 (.iaload) 801 := ⟨by decide +kernel, rfl⟩
theorem dL_law_801 : uD 1 cL_law 801 (.aload_n 0) 802 := ⟨by decide +kernel, rfl⟩
theorem dL_law_802 : uD 2 cL_law 802 (.iload 5) 804 := ⟨by decide +kernel, rfl⟩
theorem dL_law_804 : uD 1 cL_law 804 (.iconst 2) 805 := ⟨by decide +kernel, rfl⟩
theorem dL_law_805 : uD 1 cL_law 805 (.iadd) 806 := ⟨by decide +kernel, rfl⟩
theorem dL_law_806 : uD 1 cL_law 806 (.iaload) 807 := ⟨by decide +kernel, rfl⟩
theorem dL_law_807 : uD 1 cL_law 807 (.aload_n 0) 808 := ⟨by decide +kernel, rfl⟩
theorem dL_law_808 : uD 2 cL_law 808 (.iload 5) 810 := ⟨by decide +kernel, rfl⟩
theorem dL_law_810 : uD 1 cL_law 810 (.iconst 3) 811 := ⟨by decide +kernel, rfl⟩
theorem dL_law_811 : uD 1 cL_law 811 (.iadd) 812 := ⟨by decide +kernel, rfl⟩
theorem dL_law_812 : uD 1 cL_law 812 (.iaload) 813 := ⟨by decide +kernel, rfl⟩
theorem dL_law_813 : uD 1 cL_law 813 (.aload_n 3) 814 := ⟨by decide +kernel, rfl⟩
theorem dL_law_814 : uD 3 cL_law 814 (.invokestatic 163) 817 := ⟨by decide +kernel, rfl⟩
theorem dL_law_817 : uD 2 cL_law 817 (.istore 6) 819 := ⟨by decide +kernel, rfl⟩
theorem dL_law_819 : uD 1 cL_law 819 (.aload_n 2) 820 := ⟨by decide +kernel, rfl⟩
theorem dL_law_820 : uD 1 cL_law 820 (.aload_n 0) 821 := ⟨by decide +kernel, rfl⟩
theorem dL_law_821 : uD 2 cL_law 821 (.iload 5) 823 := ⟨by decide +kernel, rfl⟩
theorem dL_law_823 : uD 1 cL_law 823 (.iconst 1) 824 := ⟨by decide +kernel, rfl⟩
theorem dL_law_824 : uD 1 cL_law 824 (.iadd) 825 := ⟨by decide +kernel, rfl⟩
theorem dL_law_825 : uD 1 cL_law 825 (.iaload) 826 := ⟨by decide +kernel, rfl⟩
theorem dL_law_826 : uD 1 cL_law 826 (.aload_n 0) 827 := ⟨by decide +kernel, rfl⟩
theorem dL_law_827 : uD 2 cL_law 827 (.iload 5) 829 := ⟨by decide +kernel, rfl⟩
theorem dL_law_829 : uD 1 cL_law 829 (.iconst 2) 830 := ⟨by decide +kernel, rfl⟩
theorem dL_law_830 : uD 1 cL_law 830 (.iadd) 831 := ⟨by decide +kernel, rfl⟩
theorem dL_law_831 : uD 1 cL_law 831 (.iaload) 832 := ⟨by decide +kernel, rfl⟩
theorem dL_law_832 : uD 1 cL_law 832 (.aload_n 0) 833 := ⟨by decide +kernel, rfl⟩
theorem dL_law_833 : uD 2 cL_law 833 (.iload 5) 835 := ⟨by decide +kernel, rfl⟩
theorem dL_law_835 : uD 1 cL_law 835 (.iconst 3) 836 := ⟨by decide +kernel, rfl⟩
theorem dL_law_836 : uD 1 cL_law 836 (.iadd) 837 := ⟨by decide +kernel, rfl⟩
theorem dL_law_837 : uD 1 cL_law 837 (.iaload) 838 := ⟨by decide +kernel, rfl⟩
theorem dL_law_838 : uD 3 cL_law 838 (.invokevirtual 166) 841 := ⟨by decide +kernel, rfl⟩
theorem dL_law_841 : uD 2 cL_law 841 (.istore 7) 843 := ⟨by decide +kernel, rfl⟩
theorem dL_law_843 : uD 1 cL_law 843 (.aload_n 2) 844 := ⟨by decide +kernel, rfl⟩
theorem dL_law_844 : uD 3 cL_law 844 (.invokevirtual 125) 847 := ⟨by decide +kernel, rfl⟩
theorem dL_law_847 : uD 2 cL_law 847 (.iload 6) 849 := ⟨by decide +kernel, rfl⟩
theorem dL_law_849 : uJ cL_law 849 (fun o => .if_icmp .eq o) 854 852 := ⟨5, by decide +kernel, by decide, rfl⟩
theorem dL_law_852 : uD 1 cL_law 852 (.iconst 0) 853 := ⟨by decide +kernel, rfl⟩
theorem dL_law_853 : uD 1 cL_law 853 (.ireturn) 854 := ⟨by decide +kernel, rfl⟩
theorem dL_law_854 : uD 2 cL_law 854 (.iload 6) 856 := ⟨by decide +kernel, rfl⟩
theorem dL_law_856 : uJ cL_law 856 (fun o => .ifCond .ne o) 878 859 := ⟨22, by decide +kernel, by decide, rfl⟩
theorem dL_law_859 : uD 1 cL_law 859 (.aload_n 3) 860 := ⟨by decide +kernel, rfl⟩
theorem dL_law_860 : uD 1 cL_law 860 (.iconst 0) 861 := ⟨by decide +kernel, rfl⟩
theorem dL_law_861 : uD 1 cL_law 861 (.laload) 862 := ⟨by decide +kernel, rfl⟩
theorem dL_law_862 : uD 2 cL_law 862 (.iload 7) 864 := ⟨by decide +kernel, rfl⟩
theorem dL_law_864 : uJ cL_law 864 (fun o => .ifCond .eq o) 871 867 := ⟨7, by decide +kernel, by decide, rfl⟩
theorem dL_law_867 : uD 1 cL_law 867 (.lconst 1) 868 := ⟨by decide +kernel, rfl⟩
theorem dL_law_868 : uJ cL_law 868 (fun o => .goto o) 872 871 := ⟨4, by decide +kernel, by decide, rfl⟩
theorem dL_law_871 : uD 1 cL_law 871 (.lconst 0) 872 := ⟨by decide +kernel, rfl⟩
theorem dL_law_872 : uD 1 cL_law 872 (.lcmp) 873 := ⟨by decide +kernel, rfl⟩
theorem dL_law_873 : uJ cL_law 873 (fun o => .ifCond .eq o) 878 876 := ⟨5, by decide +kernel, by decide, rfl⟩
theorem dL_law_876 : uD 1 cL_law 876 (.iconst 0) 877 := ⟨by decide +kernel, rfl⟩
theorem dL_law_877 : uD 1 cL_law 877 (.ireturn) 878 := ⟨by decide +kernel, rfl⟩
theorem dL_law_878 : uJ cL_law 878 (fun o => .goto o) 2116 881 := ⟨1238, by decide +kernel, by decide, rfl⟩
theorem dL_law_881 : uD 1 cL_law 881 (.aload_n 1) 882 := ⟨by decide +kernel, rfl⟩
theorem dL_law_882 : uD 1 cL_law 882 (.aload_n 0) 883 := ⟨by decide +kernel, rfl⟩
theorem dL_law_883 : uD 2 cL_law 883 (.iload 5) 885 := ⟨by decide +kernel, rfl⟩
theorem dL_law_885 : uD 1 cL_law 885 (.iconst 1) 886 := ⟨by decide +kernel, rfl⟩
theorem dL_law_886 : uD 1 cL_law 886 (.iadd) 887 := ⟨by decide +kernel, rfl⟩
theorem dL_law_887 : uD 1 cL_law 887 (.iaload) 888 := ⟨by decide +kernel, rfl⟩
theorem dL_law_888 : uD 1 cL_law 888 (.aload_n 0) 889 := ⟨by decide +kernel, rfl⟩
theorem dL_law_889 : uD 2 cL_law 889 (.iload 5) 891 := ⟨by decide +kernel, rfl⟩
theorem dL_law_891 : uD 1 cL_law 891 (.iconst 2) 892 := ⟨by decide +kernel, rfl⟩
theorem dL_law_892 : uD 1 cL_law 892 (.iadd) 893 := ⟨by decide +kernel, rfl⟩
theorem dL_law_893 : uD 1 cL_law 893 (.iaload) 894 := ⟨by decide +kernel, rfl⟩
theorem dL_law_894 : uD 1 cL_law 894 (.aload_n 0) 895 := ⟨by decide +kernel, rfl⟩
theorem dL_law_895 : uD 2 cL_law 895 (.iload 5) 897 := ⟨by decide +kernel, rfl⟩
theorem dL_law_897 : uD 1 cL_law 897 (.iconst 3) 898 := ⟨by decide +kernel, rfl⟩
theorem dL_law_898 : uD 1 cL_law 898 (.iadd) 899 := ⟨by decide +kernel, rfl⟩
theorem dL_law_899 : uD 1 cL_law 899 (.iaload) 900 := ⟨by decide +kernel, rfl⟩
theorem dL_law_900 : uD 1 cL_law 900 (.aload_n 3) 901 := ⟨by decide +kernel, rfl⟩
theorem dL_law_901 : uD 3 cL_law 901 (.invokestatic 167) 904 := ⟨by decide +kernel, rfl⟩
theorem dL_law_904 : uD 2 cL_law 904 (.istore 6) 906 := ⟨by decide +kernel, rfl⟩
theorem dL_law_906 : uD 1 cL_law 906 (.aload_n 2) 907 := ⟨by decide +kernel, rfl⟩
theorem dL_law_907 : uD 1 cL_law 907 (.aload_n 0) 908 := ⟨by decide +kernel, rfl⟩
theorem dL_law_908 : uD 2 cL_law 908 (.iload 5) 910 := ⟨by decide +kernel, rfl⟩
theorem dL_law_910 : uD 1 cL_law 910 (.iconst 1) 911 := ⟨by decide +kernel, rfl⟩
theorem dL_law_911 : uD 1 cL_law 911 (.iadd) 912 := ⟨by decide +kernel, rfl⟩
theorem dL_law_912 : uD 1 cL_law 912 (.iaload) 913 := ⟨by decide +kernel, rfl⟩
theorem dL_law_913 : uD 1 cL_law 913 (.aload_n 0) 914 := ⟨by decide +kernel, rfl⟩
theorem dL_law_914 : uD 2 cL_law 914 (.iload 5) 916 := ⟨by decide +kernel, rfl⟩
theorem dL_law_916 : uD 1 cL_law 916 (.iconst 2) 917 := ⟨by decide +kernel, rfl⟩
theorem dL_law_917 : uD 1 cL_law 917 (.iadd) 918 := ⟨by decide +kernel, rfl⟩
theorem dL_law_918 : uD 1 cL_law 918 (.iaload) 919 := ⟨by decide +kernel, rfl⟩
theorem dL_law_919 : uD 1 cL_law 919 (.aload_n 0) 920 := ⟨by decide +kernel, rfl⟩
theorem dL_law_920 : uD 2 cL_law 920 (.iload 5) 922 := ⟨by decide +kernel, rfl⟩
theorem dL_law_922 : uD 1 cL_law 922 (.iconst 3) 923 := ⟨by decide +kernel, rfl⟩
theorem dL_law_923 : uD 1 cL_law 923 (.iadd) 924 := ⟨by decide +kernel, rfl⟩
theorem dL_law_924 : uD 1 cL_law 924 (.iaload) 925 := ⟨by decide +kernel, rfl⟩
theorem dL_law_925 : uD 3 cL_law 925 (.invokevirtual 169) 928 := ⟨by decide +kernel, rfl⟩
theorem dL_law_928 : uD 2 cL_law 928 (.istore 7) 930 := ⟨by decide +kernel, rfl⟩
theorem dL_law_930 : uD 1 cL_law 930 (.aload_n 2) 931 := ⟨by decide +kernel, rfl⟩
theorem dL_law_931 : uD 3 cL_law 931 (.invokevirtual 125) 934 := ⟨by decide +kernel, rfl⟩
theorem dL_law_934 : uD 2 cL_law 934 (.iload 6) 936 := ⟨by decide +kernel, rfl⟩
theorem dL_law_936 : uJ cL_law 936 (fun o => .if_icmp .eq o) 941 939 := ⟨5, by decide +kernel, by decide, rfl⟩
theorem dL_law_939 : uD 1 cL_law 939 (.iconst 0) 940 := ⟨by decide +kernel, rfl⟩
theorem dL_law_940 : uD 1 cL_law 940 (.ireturn) 941 := ⟨by decide +kernel, rfl⟩
theorem dL_law_941 : uD 2 cL_law 941 (.iload 6) 943 := ⟨by decide +kernel, rfl⟩
theorem dL_law_943 : uJ cL_law 943 (fun o => .ifCond .ne o) 965 946 := ⟨22, by decide +kernel, by decide, rfl⟩
theorem dL_law_946 : uD 1 cL_law 946 (.aload_n 3) 947 := ⟨by decide +kernel, rfl⟩
theorem dL_law_947 : uD 1 cL_law 947 (.iconst 0) 948 := ⟨by decide +kernel, rfl⟩
theorem dL_law_948 : uD 1 cL_law 948 (.laload) 949 := ⟨by decide +kernel, rfl⟩
theorem dL_law_949 : uD 2 cL_law 949 (.iload 7) 951 := ⟨by decide +kernel, rfl⟩
theorem dL_law_951 : uJ cL_law 951 (fun o => .ifCond .eq o) 958 954 := ⟨7, by decide +kernel, by decide, rfl⟩
theorem dL_law_954 : uD 1 cL_law 954 (.lconst 1) 955 := ⟨by decide +kernel, rfl⟩
theorem dL_law_955 : uJ cL_law 955 (fun o => .goto o) 959 958 := ⟨4, by decide +kernel, by decide, rfl⟩
theorem dL_law_958 : uD 1 cL_law 958 (.lconst 0) 959 := ⟨by decide +kernel, rfl⟩
theorem dL_law_959 : uD 1 cL_law 959 (.lcmp) 960 := ⟨by decide +kernel, rfl⟩
theorem dL_law_960 : uJ cL_law 960 (fun o => .ifCond .eq o) 965 963 := ⟨5, by decide +kernel, by decide, rfl⟩
theorem dL_law_963 : uD 1 cL_law 963 (.iconst 0) 964 := ⟨by decide +kernel, rfl⟩
theorem dL_law_964 : uD 1 cL_law 964 (.ireturn) 965 := ⟨by decide +kernel, rfl⟩
theorem dL_law_965 : uJ cL_law 965 (fun o => .goto o) 2116 968 := ⟨1151, by decide +kernel, by decide, rfl⟩
theorem dL_law_968 : uD 1 cL_law 968 (.aload_n 1) 969 := ⟨by decide +kernel, rfl⟩
theorem dL_law_969 : uD 1 cL_law 969 (.aload_n 0) 970 := ⟨by decide +kernel, rfl⟩
theorem dL_law_970 : uD 2 cL_law 970 (.iload 5) 972 := ⟨by decide +kernel, rfl⟩
theorem dL_law_972 : uD 1 cL_law 972 (.iconst 1) 973 := ⟨by decide +kernel, rfl⟩
theorem dL_law_973 : uD 1 cL_law 973 (.iadd) 974 := ⟨by decide +kernel, rfl⟩
theorem dL_law_974 : uD 1 cL_law 974 (.iaload) 975 := ⟨by decide +kernel, rfl⟩
theorem dL_law_975 : uD 1 cL_law 975 (.aload_n 3) 976 := ⟨by decide +kernel, rfl⟩
theorem dL_law_976 : uD 3 cL_law 976 (.invokestatic 170) 979 := ⟨by decide +kernel, rfl⟩
theorem dL_law_979 : uD 2 cL_law 979 (.istore 6) 981 := ⟨by decide +kernel, rfl⟩
theorem dL_law_981 : uD 1 cL_law 981 (.aload_n 2) 982 := ⟨by decide +kernel, rfl⟩
theorem dL_law_982 : uD 1 cL_law 982 (.aload_n 0) 983 := ⟨by decide +kernel, rfl⟩
theorem dL_law_983 : uD 2 cL_law 983 (.iload 5) 985 := ⟨by decide +kernel, rfl⟩
theorem dL_law_985 : uD 1 cL_law 985 (.iconst 1) 986 := ⟨by decide +kernel, rfl⟩
theorem dL_law_986 : uD 1 cL_law 986 (.iadd) 987 := ⟨by decide +kernel, rfl⟩
theorem dL_law_987 : uD 1 cL_law 987 (.iaload) 988 := ⟨by decide +kernel, rfl⟩
theorem dL_law_988 : uD 3 cL_law 988 (.invokevirtual 172) 991 := ⟨by decide +kernel, rfl⟩
theorem dL_law_991 : uD 2 cL_law 991 (.istore 7) 993 := ⟨by decide +kernel, rfl⟩
theorem dL_law_993 : uD 1 cL_law 993 (.aload_n 2) 994 := ⟨by decide +kernel, rfl⟩
theorem dL_law_994 : uD 3 cL_law 994 (.invokevirtual 125) 997 := ⟨by decide +kernel, rfl⟩
theorem dL_law_997 : uD 2 cL_law 997 (.iload 6) 999 := ⟨by decide +kernel, rfl⟩
theorem dL_law_999 : uJ cL_law 999 (fun o => .if_icmp .eq o) 1004 1002 := ⟨5, by decide +kernel, by decide, rfl⟩
theorem dL_law_1002 : uD 1 cL_law 1002 (.iconst 0) 1003 := ⟨by decide +kernel, rfl⟩
theorem dL_law_1003 : uD 1 cL_law 1003 (.ireturn) 1004 := ⟨by decide +kernel, rfl⟩
theorem dL_law_1004 : uD 2 cL_law 1004 (.iload 6) 1006 := ⟨by decide +kernel, rfl⟩
theorem dL_law_1006 : uJ cL_law 1006 (fun o => .ifCond .ne o) 1021 1009 := ⟨15, by decide +kernel, by decide, rfl⟩
theorem dL_law_1009 : uD 1 cL_law 1009 (.aload_n 3) 1010 := ⟨by decide +kernel, rfl⟩
theorem dL_law_1010 : uD 1 cL_law 1010 (.iconst 0) 1011 := ⟨by decide +kernel, rfl⟩
theorem dL_law_1011 : uD 1 cL_law 1011 (.laload) 1012 := ⟨by decide +kernel, rfl⟩
theorem dL_law_1012 : uD 2 cL_law 1012 (.iload 7) 1014 := ⟨by decide +kernel, rfl⟩
theorem dL_law_1014 : uD 1 cL_law 1014 (.i2l) 1015 := ⟨by decide +kernel, rfl⟩
theorem dL_law_1015 : uD 1 cL_law 1015 (.lcmp) 1016 := ⟨by decide +kernel, rfl⟩
theorem dL_law_1016 : uJ cL_law 1016 (fun o => .ifCond .eq o) 1021 1019 := ⟨5, by decide +kernel, by decide, rfl⟩
theorem dL_law_1019 : uD 1 cL_law 1019 (.iconst 0) 1020 := ⟨by decide +kernel, rfl⟩
theorem dL_law_1020 : uD 1 cL_law 1020 (.ireturn) 1021 := ⟨by decide +kernel, rfl⟩
theorem dL_law_1021 : uJ cL_law 1021 (fun o => .goto o) 2116 1024 := ⟨1095, by decide +kernel, by decide, rfl⟩
theorem dL_law_1024 : uD 1 cL_law 1024 (.aload_n 1) 1025 := ⟨by decide +kernel, rfl⟩
theorem dL_law_1025 : uD 1 cL_law 1025 (.aload_n 0) 1026 := ⟨by decide +kernel, rfl⟩
theorem dL_law_1026 : uD 2 cL_law 1026 (.iload 5) 1028 := ⟨by decide +kernel, rfl⟩
theorem dL_law_1028 : uD 1 cL_law 1028 (.iconst 1) 1029 := ⟨by decide +kernel, rfl⟩
theorem dL_law_1029 : uD 1 cL_law 1029 (.iadd) 1030 := ⟨by decide +kernel, rfl⟩
theorem dL_law_1030 : uD 1 cL_law 1030 (.iaload) 1031 := ⟨by decide +kernel, rfl⟩
theorem dL_law_1031 : uD 1 cL_law 1031 (.aload_n 0) 1032 := ⟨by decide +kernel, rfl⟩
theorem dL_law_1032 : uD 2 cL_law 1032 (.iload 5) 1034 := ⟨by decide +kernel, rfl⟩
theorem dL_law_1034 : uD 1 cL_law 1034 (.iconst 2) 1035 := ⟨by decide +kernel, rfl⟩
theorem dL_law_1035 : uD 1 cL_law 1035 (.iadd) 1036 := ⟨by decide +kernel, rfl⟩
theorem dL_law_1036 : uD 1 cL_law 1036 (.iaload) 1037 := ⟨by decide +kernel, rfl⟩
theorem dL_law_1037 : uJ cL_law 1037 (fun o => .ifCond .eq o) 1044 1040 := ⟨7, by decide +kernel, by decide, rfl⟩
theorem dL_law_1040 : uD 1 cL_law 1040 (.iconst 1) 1041 := ⟨by decide +kernel, rfl⟩
theorem dL_law_1041 : uJ cL_law 1041 (fun o => .goto o) 1045 1044 := ⟨4, by decide +kernel, by decide, rfl⟩
theorem dL_law_1044 : uD 1 cL_law 1044 (.iconst 0) 1045 := ⟨by decide +kernel, rfl⟩
theorem dL_law_1045 : uD 1 cL_law 1045 (.aload_n 3) 1046 := ⟨by decide +kernel, rfl⟩
theorem dL_law_1046 : uD 3 cL_law 1046 (.invokestatic 173) 1049 := ⟨by decide +kernel, rfl⟩
theorem dL_law_1049 : uD 2 cL_law 1049 (.istore 6) 1051 := ⟨by decide +kernel, rfl⟩
theorem dL_law_1051 : uD 1 cL_law 1051 (.aload_n 2) 1052 := ⟨by decide +kernel, rfl⟩
theorem dL_law_1052 : uD 1 cL_law 1052 (.aload_n 0) 1053 := ⟨by decide +kernel, rfl⟩
theorem dL_law_1053 : uD 2 cL_law 1053 (.iload 5) 1055 := ⟨by decide +kernel, rfl⟩
theorem dL_law_1055 : uD 1 cL_law 1055 (.iconst 1) 1056 := ⟨by decide +kernel, rfl⟩
theorem dL_law_1056 : uD 1 cL_law 1056 (.iadd) 1057 := ⟨by decide +kernel, rfl⟩
theorem dL_law_1057 : uD 1 cL_law 1057 (.iaload) 1058 := ⟨by decide +kernel, rfl⟩
theorem dL_law_1058 : uD 1 cL_law 1058 (.aload_n 0) 1059 := ⟨by decide +kernel, rfl⟩
theorem dL_law_1059 : uD 2 cL_law 1059 (.iload 5) 1061 := ⟨by decide +kernel, rfl⟩
theorem dL_law_1061 : uD 1 cL_law 1061 (.iconst 2) 1062 := ⟨by decide +kernel, rfl⟩
theorem dL_law_1062 : uD 1 cL_law 1062 (.iadd) 1063 := ⟨by decide +kernel, rfl⟩
theorem dL_law_1063 : uD 1 cL_law 1063 (.iaload) 1064 := ⟨by decide +kernel, rfl⟩
theorem dL_law_1064 : uJ cL_law 1064 (fun o => .ifCond .eq o) 1071 1067 := ⟨7, by decide +kernel, by decide, rfl⟩
theorem dL_law_1067 : uD 1 cL_law 1067 (.iconst 1) 1068 := ⟨by decide +kernel, rfl⟩
theorem dL_law_1068 : uJ cL_law 1068 (fun o => .goto o) 1072 1071 := ⟨4, by decide +kernel, by decide, rfl⟩
theorem dL_law_1071 : uD 1 cL_law 1071 (.iconst 0) 1072 := ⟨by decide +kernel, rfl⟩
theorem dL_law_1072 : uD 3 cL_law 1072 (.invokevirtual 176) 1075 := ⟨by decide +kernel, rfl⟩
theorem dL_law_1075 : uD 2 cL_law 1075 (.istore 7) 1077 := ⟨by decide +kernel, rfl⟩
theorem dL_law_1077 : uD 1 cL_law 1077 (.aload_n 2) 1078 := ⟨by decide +kernel, rfl⟩
theorem dL_law_1078 : uD 3 cL_law 1078 (.invokevirtual 125) 1081 := ⟨by decide +kernel, rfl⟩
theorem dL_law_1081 : uD 2 cL_law 1081 (.iload 6) 1083 := ⟨by decide +kernel, rfl⟩
theorem dL_law_1083 : uJ cL_law 1083 (fun o => .if_icmp .eq o) 1088 1086 := ⟨5, by decide +kernel, by decide, rfl⟩
theorem dL_law_1086 : uD 1 cL_law 1086 (.iconst 0) 1087 := ⟨by decide +kernel, rfl⟩
theorem dL_law_1087 : uD 1 cL_law 1087 (.ireturn) 1088 := ⟨by decide +kernel, rfl⟩
theorem dL_law_1088 : uD 2 cL_law 1088 (.iload 6) 1090 := ⟨by decide +kernel, rfl⟩
theorem dL_law_1090 : uJ cL_law 1090 (fun o => .ifCond .ne o) 1112 1093 := ⟨22, by decide +kernel, by decide, rfl⟩
theorem dL_law_1093 : uD 1 cL_law 1093 (.aload_n 3) 1094 := ⟨by decide +kernel, rfl⟩
theorem dL_law_1094 : uD 1 cL_law 1094 (.iconst 0) 1095 := ⟨by decide +kernel, rfl⟩
theorem dL_law_1095 : uD 1 cL_law 1095 (.laload) 1096 := ⟨by decide +kernel, rfl⟩
theorem dL_law_1096 : uD 2 cL_law 1096 (.iload 7) 1098 := ⟨by decide +kernel, rfl⟩
theorem dL_law_1098 : uJ cL_law 1098 (fun o => .ifCond .eq o) 1105 1101 := ⟨7, by decide +kernel, by decide, rfl⟩
theorem dL_law_1101 : uD 1 cL_law 1101 (.lconst 1) 1102 := ⟨by decide +kernel, rfl⟩
theorem dL_law_1102 : uJ cL_law 1102 (fun o => .goto o) 1106 1105 := ⟨4, by decide +kernel, by decide, rfl⟩
theorem dL_law_1105 : uD 1 cL_law 1105 (.lconst 0) 1106 := ⟨by decide +kernel, rfl⟩
theorem dL_law_1106 : uD 1 cL_law 1106 (.lcmp) 1107 := ⟨by decide +kernel, rfl⟩
theorem dL_law_1107 : uJ cL_law 1107 (fun o => .ifCond .eq o) 1112 1110 := ⟨5, by decide +kernel, by decide, rfl⟩
theorem dL_law_1110 : uD 1 cL_law 1110 (.iconst 0) 1111 := ⟨by decide +kernel, rfl⟩
theorem dL_law_1111 : uD 1 cL_law 1111 (.ireturn) 1112 := ⟨by decide +kernel, rfl⟩
theorem dL_law_1112 : uJ cL_law 1112 (fun o => .goto o) 2116 1115 := ⟨1004, by decide +kernel, by decide, rfl⟩
theorem dL_law_1115 : uD 1 cL_law 1115 (.aload_n 1) 1116 := ⟨by decide +kernel, rfl⟩
theorem dL_law_1116 : uD 1 cL_law 1116 (.aload_n 0) 1117 := ⟨by decide +kernel, rfl⟩
theorem dL_law_1117 : uD 2 cL_law 1117 (.iload 5) 1119 := ⟨by decide +kernel, rfl⟩
theorem dL_law_1119 : uD 1 cL_law 1119 (.iconst 1) 1120 := ⟨by decide +kernel, rfl⟩
theorem dL_law_1120 : uD 1 cL_law 1120 (.iadd) 1121 := ⟨by decide +kernel, rfl⟩
theorem dL_law_1121 : uD 1 cL_law 1121 (.iaload) 1122 := ⟨by decide +kernel, rfl⟩
theorem dL_law_1122 : uD 1 cL_law 1122 (.aload_n 0) 1123 := ⟨by decide +kernel, rfl⟩
theorem dL_law_1123 : uD 2 cL_law 1123 (.iload 5) 1125 := ⟨by decide +kernel, rfl⟩
theorem dL_law_1125 : uD 1 cL_law 1125 (.iconst 2) 1126 := ⟨by decide +kernel, rfl⟩
theorem dL_law_1126 : uD 1 cL_law 1126 (.iadd) 1127 := ⟨by decide +kernel, rfl⟩
theorem dL_law_1127 : uD 1 cL_law 1127 (.iaload) 1128 := ⟨by decide +kernel, rfl⟩
theorem dL_law_1128 : uD 1 cL_law 1128 (.aload_n 3) 1129 := ⟨by decide +kernel, rfl⟩
theorem dL_law_1129 : uD 3 cL_law 1129 (.invokestatic 177) 1132 := ⟨by decide +kernel, rfl⟩
theorem dL_law_1132 : uD 2 cL_law 1132 (.istore 6) 1134 := ⟨by decide +kernel, rfl⟩
theorem dL_law_1134 : uD 1 cL_law 1134 (.aload_n 2) 1135 := ⟨by decide +kernel, rfl⟩
theorem dL_law_1135 : uD 1 cL_law 1135 (.aload_n 0) 1136 := ⟨by decide +kernel, rfl⟩
theorem dL_law_1136 : uD 2 cL_law 1136 (.iload 5) 1138 := ⟨by decide +kernel, rfl⟩
theorem dL_law_1138 : uD 1 cL_law 1138 (.iconst 1) 1139 := ⟨by decide +kernel, rfl⟩
theorem dL_law_1139 : uD 1 cL_law 1139 (.iadd) 1140 := ⟨by decide +kernel, rfl⟩
theorem dL_law_1140 : uD 1 cL_law 1140 (.iaload) 1141 := ⟨by decide +kernel, rfl⟩
theorem dL_law_1141 : uD 1 cL_law 1141 (.aload_n 0) 1142 := ⟨by decide +kernel, rfl⟩
theorem dL_law_1142 : uD 2 cL_law 1142 (.iload 5) 1144 := ⟨by decide +kernel, rfl⟩
theorem dL_law_1144 : uD 1 cL_law 1144 (.iconst 2) 1145 := ⟨by decide +kernel, rfl⟩
theorem dL_law_1145 : uD 1 cL_law 1145 (.iadd) 1146 := ⟨by decide +kernel, rfl⟩
theorem dL_law_1146 : uD 1 cL_law 1146 (.iaload) 1147 := ⟨by decide +kernel, rfl⟩
theorem dL_law_1147 : uD 3 cL_law 1147 (.invokevirtual 179) 1150 := ⟨by decide +kernel, rfl⟩
theorem dL_law_1150 : uD 2 cL_law 1150 (.istore 7) 1152 := ⟨by decide +kernel, rfl⟩
theorem dL_law_1152 : uD 1 cL_law 1152 (.aload_n 2) 1153 := ⟨by decide +kernel, rfl⟩
theorem dL_law_1153 : uD 3 cL_law 1153 (.invokevirtual 125) 1156 := ⟨by decide +kernel, rfl⟩
theorem dL_law_1156 : uD 2 cL_law 1156 (.iload 6) 1158 := ⟨by decide +kernel, rfl⟩
theorem dL_law_1158 : uJ cL_law 1158 (fun o => .if_icmp .eq o) 1163 1161 := ⟨5, by decide +kernel, by decide, rfl⟩
theorem dL_law_1161 : uD 1 cL_law 1161 (.iconst 0) 1162 := ⟨by decide +kernel, rfl⟩
theorem dL_law_1162 : uD 1 cL_law 1162 (.ireturn) 1163 := ⟨by decide +kernel, rfl⟩
theorem dL_law_1163 : uD 2 cL_law 1163 (.iload 6) 1165 := ⟨by decide +kernel, rfl⟩
theorem dL_law_1165 : uJ cL_law 1165 (fun o => .ifCond .ne o) 1180 1168 := ⟨15, by decide +kernel, by decide, rfl⟩
theorem dL_law_1168 : uD 1 cL_law 1168 (.aload_n 3) 1169 := ⟨by decide +kernel, rfl⟩
theorem dL_law_1169 : uD 1 cL_law 1169 (.iconst 0) 1170 := ⟨by decide +kernel, rfl⟩
theorem dL_law_1170 : uD 1 cL_law 1170 (.laload) 1171 := ⟨by decide +kernel, rfl⟩
theorem dL_law_1171 : uD 2 cL_law 1171 (.iload 7) 1173 := ⟨by decide +kernel, rfl⟩
theorem dL_law_1173 : uD 1 cL_law 1173 (.i2l) 1174 := ⟨by decide +kernel, rfl⟩
theorem dL_law_1174 : uD 1 cL_law 1174 (.lcmp) 1175 := ⟨by decide +kernel, rfl⟩
theorem dL_law_1175 : uJ cL_law 1175 (fun o => .ifCond .eq o) 1180 1178 := ⟨5, by decide +kernel, by decide, rfl⟩
theorem dL_law_1178 : uD 1 cL_law 1178 (.iconst 0) 1179 := ⟨by decide +kernel, rfl⟩
theorem dL_law_1179 : uD 1 cL_law 1179 (.ireturn) 1180 := ⟨by decide +kernel, rfl⟩
theorem dL_law_1180 : uJ cL_law 1180 (fun o => .goto o) 2116 1183 := ⟨936, by decide +kernel, by decide, rfl⟩
theorem dL_law_1183 : uD 1 cL_law 1183 (.aload_n 1) 1184 := ⟨by decide +kernel, rfl⟩
theorem dL_law_1184 : uD 1 cL_law 1184 (.aload_n 0) 1185 := ⟨by decide +kernel, rfl⟩
theorem dL_law_1185 : uD 2 cL_law 1185 (.iload 5) 1187 := ⟨by decide +kernel, rfl⟩
theorem dL_law_1187 : uD 1 cL_law 1187 (.iconst 1) 1188 := ⟨by decide +kernel, rfl⟩
theorem dL_law_1188 : uD 1 cL_law 1188 (.iadd) 1189 := ⟨by decide +kernel, rfl⟩
theorem dL_law_1189 : uD 1 cL_law 1189 (.iaload) 1190 := ⟨by decide +kernel, rfl⟩
theorem dL_law_1190 : uJ cL_law 1190 (fun o => .ifCond .eq o) 1197 1193 := ⟨7, by decide +kernel, by decide, rfl⟩
theorem dL_law_1193 : uD 1 cL_law 1193 (.iconst 1) 1194 := ⟨by decide +kernel, rfl⟩
theorem dL_law_1194 : uJ cL_law 1194 (fun o => .goto o) 1198 1197 := ⟨4, by decide +kernel, by decide, rfl⟩
theorem dL_law_1197 : uD 1 cL_law 1197 (.iconst 0) 1198 := ⟨by decide +kernel, rfl⟩
theorem dL_law_1198 : uD 3 cL_law 1198 (.invokevirtual 180) 1201 := ⟨by decide +kernel, rfl⟩
theorem dL_law_1201 : uD 1 cL_law 1201 (.aload_n 2) 1202 := ⟨by decide +kernel, rfl⟩
theorem dL_law_1202 : uD 1 cL_law 1202 (.aload_n 0) 1203 := ⟨by decide +kernel, rfl⟩
theorem dL_law_1203 : uD 2 cL_law 1203 (.iload 5) 1205 := ⟨by decide +kernel, rfl⟩
theorem dL_law_1205 : uD 1 cL_law 1205 (.iconst 1) 1206 := ⟨by decide +kernel, rfl⟩
theorem dL_law_1206 : uD 1 cL_law 1206 (.iadd) 1207 := ⟨by decide +kernel, rfl⟩
theorem dL_law_1207 : uD 1 cL_law 1207 (.iaload) 1208 := ⟨by decide +kernel, rfl⟩
theorem dL_law_1208 : uJ cL_law 1208 (fun o => .ifCond .eq o) 1215 1211 := ⟨7, by decide +kernel, by decide, rfl⟩
theorem dL_law_1211 : uD 1 cL_law 1211 (.iconst 1) 1212 := ⟨by decide +kernel, rfl⟩
theorem dL_law_1212 : uJ cL_law 1212 (fun o => .goto o) 1216 1215 := ⟨4, by decide +kernel, by decide, rfl⟩
theorem dL_law_1215 : uD 1 cL_law 1215 (.iconst 0) 1216 := ⟨by decide +kernel, rfl⟩
theorem dL_law_1216 : uD 3 cL_law 1216 (.invokevirtual 184) 1219 := ⟨by decide +kernel, rfl⟩
theorem dL_law_1219 : uJ cL_law 1219 (fun o => .if_icmp .eq o) 2116 1222 := ⟨897, by decide +kernel, by decide, rfl⟩
theorem dL_law_1222 : uD 1 cL_law 1222 (.iconst 0) 1223 := ⟨by decide +kernel, rfl⟩
theorem dL_law_1223 : uD 1 cL_law 1223 (.ireturn) 1224 := ⟨by decide +kernel, rfl⟩
theorem dL_law_1224 : uD 1 cL_law 1224 (.aload_n 1) 1225 := ⟨by decide +kernel, rfl⟩
theorem dL_law_1225 : uD 1 cL_law 1225 (.aload_n 0) 1226 := ⟨by decide +kernel, rfl⟩
theorem dL_law_1226 : uD 2 cL_law 1226 (.iload 5) 1228 := ⟨by decide +kernel, rfl⟩
theorem dL_law_1228 : uD 1 cL_law 1228 (.iconst 1) 1229 := ⟨by decide +kernel, rfl⟩
theorem dL_law_1229 : uD 1 cL_law 1229 (.iadd) 1230 := ⟨by decide +kernel, rfl⟩
theorem dL_law_1230 : uD 1 cL_law 1230 (.iaload) 1231 := ⟨by decide +kernel, rfl⟩
theorem dL_law_1231 : uD 1 cL_law 1231 (.aload_n 3) 1232 := ⟨by decide +kernel, rfl⟩
theorem dL_law_1232 : uD 3 cL_law 1232 (.invokestatic 185) 1235 := ⟨by decide +kernel, rfl⟩
theorem dL_law_1235 : uD 2 cL_law 1235 (.istore 6) 1237 := ⟨by decide +kernel, rfl⟩
theorem dL_law_1237 : uD 1 cL_law 1237 (.aload_n 2) 1238 := ⟨by decide +kernel, rfl⟩
theorem dL_law_1238 : uD 1 cL_law 1238 (.aload_n 0) 1239 := ⟨by decide +kernel, rfl⟩
theorem dL_law_1239 : uD 2 cL_law 1239 (.iload 5) 1241 := ⟨by decide +kernel, rfl⟩
theorem dL_law_1241 : uD 1 cL_law 1241 (.iconst 1) 1242 := ⟨by decide +kernel, rfl⟩
theorem dL_law_1242 : uD 1 cL_law 1242 (.iadd) 1243 := ⟨by decide +kernel, rfl⟩
theorem dL_law_1243 : uD 1 cL_law 1243 (.iaload) 1244 := ⟨by decide +kernel, rfl⟩
theorem dL_law_1244 : uD 3 cL_law 1244 (.invokevirtual 187) 1247 := ⟨by decide +kernel, rfl⟩
theorem dL_law_1247 : uD 2 cL_law 1247 (.istore 7) 1249 := ⟨by decide +kernel, rfl⟩
theorem dL_law_1249 : uD 1 cL_law 1249 (.aload_n 2) 1250 := ⟨by decide +kernel, rfl⟩
theorem dL_law_1250 : uD 3 cL_law 1250 (.invokevirtual 125) 1253 := ⟨by decide +kernel, rfl⟩
theorem dL_law_1253 : uD 2 cL_law 1253 (.iload 6) 1255 := ⟨by decide +kernel, rfl⟩
theorem dL_law_1255 : uJ cL_law 1255 (fun o => .if_icmp .eq o) 1260 1258 := ⟨5, by decide +kernel, by decide, rfl⟩
theorem dL_law_1258 : uD 1 cL_law 1258 (.iconst 0) 1259 := ⟨by decide +kernel, rfl⟩
theorem dL_law_1259 : uD 1 cL_law 1259 (.ireturn) 1260 := ⟨by decide +kernel, rfl⟩
theorem dL_law_1260 : uD 2 cL_law 1260 (.iload 6) 1262 := ⟨by decide +kernel, rfl⟩
theorem dL_law_1262 : uJ cL_law 1262 (fun o => .ifCond .ne o) 1277 1265 := ⟨15, by decide +kernel, by decide, rfl⟩
theorem dL_law_1265 : uD 1 cL_law 1265 (.aload_n 3) 1266 := ⟨by decide +kernel, rfl⟩
theorem dL_law_1266 : uD 1 cL_law 1266 (.iconst 0) 1267 := ⟨by decide +kernel, rfl⟩
theorem dL_law_1267 : uD 1 cL_law 1267 (.laload) 1268 := ⟨by decide +kernel, rfl⟩
theorem dL_law_1268 : uD 2 cL_law 1268 (.iload 7) 1270 := ⟨by decide +kernel, rfl⟩
theorem dL_law_1270 : uD 1 cL_law 1270 (.i2l) 1271 := ⟨by decide +kernel, rfl⟩
theorem dL_law_1271 : uD 1 cL_law 1271 (.lcmp) 1272 := ⟨by decide +kernel, rfl⟩
theorem dL_law_1272 : uJ cL_law 1272 (fun o => .ifCond .eq o) 1277 1275 := ⟨5, by decide +kernel, by decide, rfl⟩
theorem dL_law_1275 : uD 1 cL_law 1275 (.iconst 0) 1276 := ⟨by decide +kernel, rfl⟩
theorem dL_law_1276 : uD 1 cL_law 1276 (.ireturn) 1277 := ⟨by decide +kernel, rfl⟩
theorem dL_law_1277 : uJ cL_law 1277 (fun o => .goto o) 2116 1280 := ⟨839, by decide +kernel, by decide, rfl⟩
theorem dL_law_1280 : uD 1 cL_law 1280 (.aload_n 1) 1281 := ⟨by decide +kernel, rfl⟩
theorem dL_law_1281 : uD 1 cL_law 1281 (.aload_n 3) 1282 := ⟨by decide +kernel, rfl⟩
theorem dL_law_1282 : uD 3 cL_law 1282 (.invokestatic 188) 1285 := ⟨by decide +kernel, rfl⟩
theorem dL_law_1285 : uD 2 cL_law 1285 (.istore 6) 1287 := ⟨by decide +kernel, rfl⟩
theorem dL_law_1287 : uD 1 cL_law 1287 (.aload_n 2) 1288 := ⟨by decide +kernel, rfl⟩
theorem dL_law_1288 : uD 3 cL_law 1288 (.invokevirtual 190) 1291 := ⟨by decide +kernel, rfl⟩
theorem dL_law_1291 : uD 2 cL_law 1291 (.istore 7) 1293 := ⟨by decide +kernel, rfl⟩
theorem dL_law_1293 : uD 1 cL_law 1293 (.aload_n 2) 1294 := ⟨by decide +kernel, rfl⟩
theorem dL_law_1294 : uD 3 cL_law 1294 (.invokevirtual 125) 1297 := ⟨by decide +kernel, rfl⟩
theorem dL_law_1297 : uD 2 cL_law 1297 (.iload 6) 1299 := ⟨by decide +kernel, rfl⟩
theorem dL_law_1299 : uJ cL_law 1299 (fun o => .if_icmp .eq o) 1304 1302 := ⟨5, by decide +kernel, by decide, rfl⟩
theorem dL_law_1302 : uD 1 cL_law 1302 (.iconst 0) 1303 := ⟨by decide +kernel, rfl⟩
theorem dL_law_1303 : uD 1 cL_law 1303 (.ireturn) 1304 := ⟨by decide +kernel, rfl⟩
theorem dL_law_1304 : uD 2 cL_law 1304 (.iload 6) 1306 := ⟨by decide +kernel, rfl⟩
theorem dL_law_1306 : uJ cL_law 1306 (fun o => .ifCond .ne o) 1321 1309 := ⟨15, by decide +kernel, by decide, rfl⟩
theorem dL_law_1309 : uD 1 cL_law 1309 (.aload_n 3) 1310 := ⟨by decide +kernel, rfl⟩
theorem dL_law_1310 : uD 1 cL_law 1310 (.iconst 0) 1311 := ⟨by decide +kernel, rfl⟩
theorem dL_law_1311 : uD 1 cL_law 1311 (.laload) 1312 := ⟨by decide +kernel, rfl⟩
theorem dL_law_1312 : uD 2 cL_law 1312 (.iload 7) 1314 := ⟨by decide +kernel, rfl⟩
theorem dL_law_1314 : uD 1 cL_law 1314 (.i2l) 1315 := ⟨by decide +kernel, rfl⟩
theorem dL_law_1315 : uD 1 cL_law 1315 (.lcmp) 1316 := ⟨by decide +kernel, rfl⟩
theorem dL_law_1316 : uJ cL_law 1316 (fun o => .ifCond .eq o) 1321 1319 := ⟨5, by decide +kernel, by decide, rfl⟩
theorem dL_law_1319 : uD 1 cL_law 1319 (.iconst 0) 1320 := ⟨by decide +kernel, rfl⟩
theorem dL_law_1320 : uD 1 cL_law 1320 (.ireturn) 1321 := ⟨by decide +kernel, rfl⟩
theorem dL_law_1321 : uJ cL_law 1321 (fun o => .goto o) 2116 1324 := ⟨795, by decide +kernel, by decide, rfl⟩
theorem dL_law_1324 : uD 1 cL_law 1324 (.aload_n 1) 1325 := ⟨by decide +kernel, rfl⟩
theorem dL_law_1325 : uD 1 cL_law 1325 (.aload_n 0) 1326 := ⟨by decide +kernel, rfl⟩
theorem dL_law_1326 : uD 2 cL_law 1326 (.iload 5) 1328 := ⟨by decide +kernel, rfl⟩
theorem dL_law_1328 : uD 1 cL_law 1328 (.iconst 1) 1329 := ⟨by decide +kernel, rfl⟩
theorem dL_law_1329 : uD 1 cL_law 1329 (.iadd) 1330 := ⟨by decide +kernel, rfl⟩
theorem dL_law_1330 : uD 1 cL_law 1330 (.iaload) 1331 := ⟨by decide +kernel, rfl⟩
theorem dL_law_1331 : uD 1 cL_law 1331 (.aload_n 3) 1332 := ⟨by decide +kernel, rfl⟩
theorem dL_law_1332 : uD 3 cL_law 1332 (.invokestatic 191) 1335 := ⟨by decide +kernel, rfl⟩
theorem dL_law_1335 : uD 2 cL_law 1335 (.istore 6) 1337 := ⟨by decide +kernel, rfl⟩
theorem dL_law_1337 : uD 1 cL_law 1337 (.aload_n 2) 1338 := ⟨by decide +kernel, rfl⟩
theorem dL_law_1338 : uD 1 cL_law 1338 (.aload_n 0) 1339 := ⟨by decide +kernel, rfl⟩
theorem dL_law_1339 : uD 2 cL_law 1339 (.iload 5) 1341 := ⟨by decide +kernel, rfl⟩
theorem dL_law_1341 : uD 1 cL_law 1341 (.iconst 1) 1342 := ⟨by decide +kernel, rfl⟩
theorem dL_law_1342 : uD 1 cL_law 1342 (.iadd) 1343 := ⟨by decide +kernel, rfl⟩
theorem dL_law_1343 : uD 1 cL_law 1343 (.iaload) 1344 := ⟨by decide +kernel, rfl⟩
theorem dL_law_1344 : uD 3 cL_law 1344 (.invokevirtual 193) 1347 := ⟨by decide +kernel, rfl⟩
theorem dL_law_1347 : uD 2 cL_law 1347 (.istore 7) 1349 := ⟨by decide +kernel, rfl⟩
theorem dL_law_1349 : uD 1 cL_law 1349 (.aload_n 2) 1350 := ⟨by decide +kernel, rfl⟩
theorem dL_law_1350 : uD 3 cL_law 1350 (.invokevirtual 125) 1353 := ⟨by decide +kernel, rfl⟩
theorem dL_law_1353 : uD 2 cL_law 1353 (.iload 6) 1355 := ⟨by decide +kernel, rfl⟩
theorem dL_law_1355 : uJ cL_law 1355 (fun o => .if_icmp .eq o) 1360 1358 := ⟨5, by decide +kernel, by decide, rfl⟩
theorem dL_law_1358 : uD 1 cL_law 1358 (.iconst 0) 1359 := ⟨by decide +kernel, rfl⟩
theorem dL_law_1359 : uD 1 cL_law 1359 (.ireturn) 1360 := ⟨by decide +kernel, rfl⟩
theorem dL_law_1360 : uD 2 cL_law 1360 (.iload 6) 1362 := ⟨by decide +kernel, rfl⟩
theorem dL_law_1362 : uJ cL_law 1362 (fun o => .ifCond .ne o) 1377 1365 := ⟨15, by decide +kernel, by decide, rfl⟩
theorem dL_law_1365 : uD 1 cL_law 1365 (.aload_n 3) 1366 := ⟨by decide +kernel, rfl⟩
theorem dL_law_1366 : uD 1 cL_law 1366 (.iconst 0) 1367 := ⟨by decide +kernel, rfl⟩
theorem dL_law_1367 : uD 1 cL_law 1367 (.laload) 1368 := ⟨by decide +kernel, rfl⟩
theorem dL_law_1368 : uD 2 cL_law 1368 (.iload 7) 1370 := ⟨by decide +kernel, rfl⟩
theorem dL_law_1370 : uD 1 cL_law 1370 (.i2l) 1371 := ⟨by decide +kernel, rfl⟩
theorem dL_law_1371 : uD 1 cL_law 1371 (.lcmp) 1372 := ⟨by decide +kernel, rfl⟩
theorem dL_law_1372 : uJ cL_law 1372 (fun o => .ifCond .eq o) 1377 1375 := ⟨5, by decide +kernel, by decide, rfl⟩
theorem dL_law_1375 : uD 1 cL_law 1375 (.iconst 0) 1376 := ⟨by decide +kernel, rfl⟩
theorem dL_law_1376 : uD 1 cL_law 1376 (.ireturn) 1377 := ⟨by decide +kernel, rfl⟩
theorem dL_law_1377 : uJ cL_law 1377 (fun o => .goto o) 2116 1380 := ⟨739, by decide +kernel, by decide, rfl⟩
theorem dL_law_1380 : uD 1 cL_law 1380 (.aload_n 1) 1381 := ⟨by decide +kernel, rfl⟩
theorem dL_law_1381 : uD 3 cL_law 1381 (.invokevirtual 194) 1384 := ⟨by decide +kernel, rfl⟩
theorem dL_law_1384 : uD 1 cL_law 1384 (.aload_n 2) 1385 := ⟨by decide +kernel, rfl⟩
theorem dL_law_1385 : uD 3 cL_law 1385 (.invokevirtual 197) 1388 := ⟨by decide +kernel, rfl⟩
theorem dL_law_1388 : uJ cL_law 1388 (fun o => .if_icmp .eq o) 2116 1391 := ⟨728, by decide +kernel, by decide, rfl⟩
theorem dL_law_1391 : uD 1 cL_law 1391 (.iconst 0) 1392 := ⟨by decide +kernel, rfl⟩
theorem dL_law_1392 : uD 1 cL_law 1392 (.ireturn) 1393 := ⟨by decide +kernel, rfl⟩
theorem dL_law_1393 : uD 1 cL_law 1393 (.aload_n 1) 1394 := ⟨by decide +kernel, rfl⟩
theorem dL_law_1394 : uD 1 cL_law 1394 (.aload_n 0) 1395 := ⟨by decide +kernel, rfl⟩
theorem dL_law_1395 : uD 2 cL_law 1395 (.iload 5) 1397 := ⟨by decide +kernel, rfl⟩
theorem dL_law_1397 : uD 1 cL_law 1397 (.iconst 1) 1398 := ⟨by decide +kernel, rfl⟩
theorem dL_law_1398 : uD 1 cL_law 1398 (.iadd) 1399 := ⟨by decide +kernel, rfl⟩
theorem dL_law_1399 : uD 1 cL_law 1399 (.iaload) 1400 := ⟨by decide +kernel, rfl⟩
theorem dL_law_1400 : uD 1 cL_law 1400 (.aload_n 3) 1401 := ⟨by decide +kernel, rfl⟩
theorem dL_law_1401 : uD 3 cL_law 1401 (.invokestatic 198) 1404 := ⟨by decide +kernel, rfl⟩
theorem dL_law_1404 : uD 2 cL_law 1404 (.istore 6) 1406 := ⟨by decide +kernel, rfl⟩
theorem dL_law_1406 : uD 1 cL_law 1406 (.aload_n 2) 1407 := ⟨by decide +kernel, rfl⟩
theorem dL_law_1407 : uD 1 cL_law 1407 (.aload_n 0) 1408 := ⟨by decide +kernel, rfl⟩
theorem dL_law_1408 : uD 2 cL_law 1408 (.iload 5) 1410 := ⟨by decide +kernel, rfl⟩
theorem dL_law_1410 : uD 1 cL_law 1410 (.iconst 1) 1411 := ⟨by decide +kernel, rfl⟩
theorem dL_law_1411 : uD 1 cL_law 1411 (.iadd) 1412 := ⟨by decide +kernel, rfl⟩
theorem dL_law_1412 : uD 1 cL_law 1412 (.iaload) 1413 := ⟨by decide +kernel, rfl⟩
theorem dL_law_1413 : uD 3 cL_law 1413 (.invokevirtual 200) 1416 := ⟨by decide +kernel, rfl⟩
theorem dL_law_1416 : uD 2 cL_law 1416 (.istore 7) 1418 := ⟨by decide +kernel, rfl⟩
theorem dL_law_1418 : uD 1 cL_law 1418 (.aload_n 2) 1419 := ⟨by decide +kernel, rfl⟩
theorem dL_law_1419 : uD 3 cL_law 1419 (.invokevirtual 125) 1422 := ⟨by decide +kernel, rfl⟩
theorem dL_law_1422 : uD 2 cL_law 1422 (.iload 6) 1424 := ⟨by decide +kernel, rfl⟩
theorem dL_law_1424 : uJ cL_law 1424 (fun o => .if_icmp .eq o) 1429 1427 := ⟨5, by decide +kernel, by decide, rfl⟩
theorem dL_law_1427 : uD 1 cL_law 1427 (.iconst 0) 1428 := ⟨by decide +kernel, rfl⟩
theorem dL_law_1428 : uD 1 cL_law 1428 (.ireturn) 1429 := ⟨by decide +kernel, rfl⟩
theorem dL_law_1429 : uD 2 cL_law 1429 (.iload 6) 1431 := ⟨by decide +kernel, rfl⟩
theorem dL_law_1431 : uJ cL_law 1431 (fun o => .ifCond .ne o) 1446 1434 := ⟨15, by decide +kernel, by decide, rfl⟩
theorem dL_law_1434 : uD 1 cL_law 1434 (.aload_n 3) 1435 := ⟨by decide +kernel, rfl⟩
theorem dL_law_1435 : uD 1 cL_law 1435 (.iconst 0) 1436 := ⟨by decide +kernel, rfl⟩
theorem dL_law_1436 : uD 1 cL_law 1436 (.laload) 1437 := ⟨by decide +kernel, rfl⟩
theorem dL_law_1437 : uD 2 cL_law 1437 (.iload 7) 1439 := ⟨by decide +kernel, rfl⟩
theorem dL_law_1439 : uD 1 cL_law 1439 (.i2l) 1440 := ⟨by decide +kernel, rfl⟩
theorem dL_law_1440 : uD 1 cL_law 1440 (.lcmp) 1441 := ⟨by decide +kernel, rfl⟩
theorem dL_law_1441 : uJ cL_law 1441 (fun o => .ifCond .eq o) 1446 1444 := ⟨5, by decide +kernel, by decide, rfl⟩
theorem dL_law_1444 : uD 1 cL_law 1444 (.iconst 0) 1445 := ⟨by decide +kernel, rfl⟩
theorem dL_law_1445 : uD 1 cL_law 1445 (.ireturn) 1446 := ⟨by decide +kernel, rfl⟩
theorem dL_law_1446 : uJ cL_law 1446 (fun o => .goto o) 2116 1449 := ⟨670, by decide +kernel, by decide, rfl⟩
theorem dL_law_1449 : uD 1 cL_law 1449 (.aload_n 1) 1450 := ⟨by decide +kernel, rfl⟩
theorem dL_law_1450 : uD 1 cL_law 1450 (.aload_n 0) 1451 := ⟨by decide +kernel, rfl⟩
theorem dL_law_1451 : uD 2 cL_law 1451 (.iload 5) 1453 := ⟨by decide +kernel, rfl⟩
theorem dL_law_1453 : uD 1 cL_law 1453 (.iconst 1) 1454 := ⟨by decide +kernel, rfl⟩
theorem dL_law_1454 : uD 1 cL_law 1454 (.iadd) 1455 := ⟨by decide +kernel, rfl⟩
theorem dL_law_1455 : uD 1 cL_law 1455 (.iaload) 1456 := ⟨by decide +kernel, rfl⟩
theorem dL_law_1456 : uD 1 cL_law 1456 (.aload_n 3) 1457 := ⟨by decide +kernel, rfl⟩
theorem dL_law_1457 : uD 3 cL_law 1457 (.invokestatic 201) 1460 := ⟨by decide +kernel, rfl⟩
theorem dL_law_1460 : uD 2 cL_law 1460 (.istore 6) 1462 := ⟨by decide +kernel, rfl⟩
theorem dL_law_1462 : uD 1 cL_law 1462 (.aload_n 2) 1463 := ⟨by decide +kernel, rfl⟩
theorem dL_law_1463 : uD 1 cL_law 1463 (.aload_n 0) 1464 := ⟨by decide +kernel, rfl⟩
theorem dL_law_1464 : uD 2 cL_law 1464 (.iload 5) 1466 := ⟨by decide +kernel, rfl⟩
theorem dL_law_1466 : uD 1 cL_law 1466 (.iconst 1) 1467 := ⟨by decide +kernel, rfl⟩
theorem dL_law_1467 : uD 1 cL_law 1467 (.iadd) 1468 := ⟨by decide +kernel, rfl⟩
theorem dL_law_1468 : uD 1 cL_law 1468 (.iaload) 1469 := ⟨by decide +kernel, rfl⟩
theorem dL_law_1469 : uD 3 cL_law 1469 (.invokevirtual 203) 1472 := ⟨by decide +kernel, rfl⟩
theorem dL_law_1472 : uD 2 cL_law 1472 (.istore 7) 1474 := ⟨by decide +kernel, rfl⟩
theorem dL_law_1474 : uD 1 cL_law 1474 (.aload_n 2) 1475 := ⟨by decide +kernel, rfl⟩
theorem dL_law_1475 : uD 3 cL_law 1475 (.invokevirtual 125) 1478 := ⟨by decide +kernel, rfl⟩
theorem dL_law_1478 : uD 2 cL_law 1478 (.iload 6) 1480 := ⟨by decide +kernel, rfl⟩
theorem dL_law_1480 : uJ cL_law 1480 (fun o => .if_icmp .eq o) 1485 1483 := ⟨5, by decide +kernel, by decide, rfl⟩
theorem dL_law_1483 : uD 1 cL_law 1483 (.iconst 0) 1484 := ⟨by decide +kernel, rfl⟩
theorem dL_law_1484 : uD 1 cL_law 1484 (.ireturn) 1485 := ⟨by decide +kernel, rfl⟩
theorem dL_law_1485 : uD 2 cL_law 1485 (.iload 6) 1487 := ⟨by decide +kernel, rfl⟩
theorem dL_law_1487 : uJ cL_law 1487 (fun o => .ifCond .ne o) 1502 1490 := ⟨15, by decide +kernel, by decide, rfl⟩
theorem dL_law_1490 : uD 1 cL_law 1490 (.aload_n 3) 1491 := ⟨by decide +kernel, rfl⟩
theorem dL_law_1491 : uD 1 cL_law 1491 (.iconst 0) 1492 := ⟨by decide +kernel, rfl⟩
theorem dL_law_1492 : uD 1 cL_law 1492 (.laload) 1493 := ⟨by decide +kernel, rfl⟩
theorem dL_law_1493 : uD 2 cL_law 1493 (.iload 7) 1495 := ⟨by decide +kernel, rfl⟩
theorem dL_law_1495 : uD 1 cL_law 1495 (.i2l) 1496 := ⟨by decide +kernel, rfl⟩
theorem dL_law_1496 : uD 1 cL_law 1496 (.lcmp) 1497 := ⟨by decide +kernel, rfl⟩
theorem dL_law_1497 : uJ cL_law 1497 (fun o => .ifCond .eq o) 1502 1500 := ⟨5, by decide +kernel, by decide, rfl⟩
theorem dL_law_1500 : uD 1 cL_law 1500 (.iconst 0) 1501 := ⟨by decide +kernel, rfl⟩
theorem dL_law_1501 : uD 1 cL_law 1501 (.ireturn) 1502 := ⟨by decide +kernel, rfl⟩
theorem dL_law_1502 : uJ cL_law 1502 (fun o => .goto o) 2116 1505 := ⟨614, by decide +kernel, by decide, rfl⟩
theorem dL_law_1505 : uD 1 cL_law 1505 (.aload_n 1) 1506 := ⟨by decide +kernel, rfl⟩
theorem dL_law_1506 : uD 1 cL_law 1506 (.aload_n 0) 1507 := ⟨by decide +kernel, rfl⟩
theorem dL_law_1507 : uD 2 cL_law 1507 (.iload 5) 1509 := ⟨by decide +kernel, rfl⟩
theorem dL_law_1509 : uD 1 cL_law 1509 (.iconst 1) 1510 := ⟨by decide +kernel, rfl⟩
theorem dL_law_1510 : uD 1 cL_law 1510 (.iadd) 1511 := ⟨by decide +kernel, rfl⟩
theorem dL_law_1511 : uD 1 cL_law 1511 (.iaload) 1512 := ⟨by decide +kernel, rfl⟩
theorem dL_law_1512 : uD 1 cL_law 1512 (.aload_n 3) 1513 := ⟨by decide +kernel, rfl⟩
theorem dL_law_1513 : uD 3 cL_law 1513 (.invokestatic 204) 1516 := ⟨by decide +kernel, rfl⟩
theorem dL_law_1516 : uD 2 cL_law 1516 (.istore 6) 1518 := ⟨by decide +kernel, rfl⟩
theorem dL_law_1518 : uD 1 cL_law 1518 (.aload_n 2) 1519 := ⟨by decide +kernel, rfl⟩
theorem dL_law_1519 : uD 1 cL_law 1519 (.aload_n 0) 1520 := ⟨by decide +kernel, rfl⟩
theorem dL_law_1520 : uD 2 cL_law 1520 (.iload 5) 1522 := ⟨by decide +kernel, rfl⟩
theorem dL_law_1522 : uD 1 cL_law 1522 (.iconst 1) 1523 := ⟨by decide +kernel, rfl⟩
theorem dL_law_1523 : uD 1 cL_law 1523 (.iadd) 1524 := ⟨by decide +kernel, rfl⟩
theorem dL_law_1524 : uD 1 cL_law 1524 (.iaload) 1525 := ⟨by decide +kernel, rfl⟩
theorem dL_law_1525 : uD 3 cL_law 1525 (.invokevirtual 206) 1528 := ⟨by decide +kernel, rfl⟩
theorem dL_law_1528 : uD 2 cL_law 1528 (.istore 7) 1530 := ⟨by decide +kernel, rfl⟩
theorem dL_law_1530 : uD 1 cL_law 1530 (.aload_n 2) 1531 := ⟨by decide +kernel, rfl⟩
theorem dL_law_1531 : uD 3 cL_law 1531 (.invokevirtual 125) 1534 := ⟨by decide +kernel, rfl⟩
theorem dL_law_1534 : uD 2 cL_law 1534 (.iload 6) 1536 := ⟨by decide +kernel, rfl⟩
theorem dL_law_1536 : uJ cL_law 1536 (fun o => .if_icmp .eq o) 1541 1539 := ⟨5, by decide +kernel, by decide, rfl⟩
theorem dL_law_1539 : uD 1 cL_law 1539 (.iconst 0) 1540 := ⟨by decide +kernel, rfl⟩
theorem dL_law_1540 : uD 1 cL_law 1540 (.ireturn) 1541 := ⟨by decide +kernel, rfl⟩
theorem dL_law_1541 : uD 2 cL_law 1541 (.iload 6) 1543 := ⟨by decide +kernel, rfl⟩
theorem dL_law_1543 : uJ cL_law 1543 (fun o => .ifCond .ne o) 1558 1546 := ⟨15, by decide +kernel, by decide, rfl⟩
theorem dL_law_1546 : uD 1 cL_law 1546 (.aload_n 3) 1547 := ⟨by decide +kernel, rfl⟩
theorem dL_law_1547 : uD 1 cL_law 1547 (.iconst 0) 1548 := ⟨by decide +kernel, rfl⟩
theorem dL_law_1548 : uD 1 cL_law 1548 (.laload) 1549 := ⟨by decide +kernel, rfl⟩
theorem dL_law_1549 : uD 2 cL_law 1549 (.iload 7) 1551 := ⟨by decide +kernel, rfl⟩
theorem dL_law_1551 : uD 1 cL_law 1551 (.i2l) 1552 := ⟨by decide +kernel, rfl⟩
theorem dL_law_1552 : uD 1 cL_law 1552 (.lcmp) 1553 := ⟨by decide +kernel, rfl⟩
theorem dL_law_1553 : uJ cL_law 1553 (fun o => .ifCond .eq o) 1558 1556 := ⟨5, by decide +kernel, by decide, rfl⟩
theorem dL_law_1556 : uD 1 cL_law 1556 (.iconst 0) 1557 := ⟨by decide +kernel, rfl⟩
theorem dL_law_1557 : uD 1 cL_law 1557 (.ireturn) 1558 := ⟨by decide +kernel, rfl⟩
theorem dL_law_1558 : uJ cL_law 1558 (fun o => .goto o) 2116 1561 := ⟨558, by decide +kernel, by decide, rfl⟩
theorem dL_law_1561 : uD 1 cL_law 1561 (.aload_n 1) 1562 := ⟨by decide +kernel, rfl⟩
theorem dL_law_1562 : uD 1 cL_law 1562 (.aload_n 0) 1563 := ⟨by decide +kernel, rfl⟩
theorem dL_law_1563 : uD 2 cL_law 1563 (.iload 5) 1565 := ⟨by decide +kernel, rfl⟩
theorem dL_law_1565 : uD 1 cL_law 1565 (.iconst 1) 1566 := ⟨by decide +kernel, rfl⟩
theorem dL_law_1566 : uD 1 cL_law 1566 (.iadd) 1567 := ⟨by decide +kernel, rfl⟩
theorem dL_law_1567 : uD 1 cL_law 1567 (.iaload) 1568 := ⟨by decide +kernel, rfl⟩
theorem dL_law_1568 : uD 1 cL_law 1568 (.aload_n 3) 1569 := ⟨by decide +kernel, rfl⟩
theorem dL_law_1569 : uD 3 cL_law 1569 (.invokestatic 207) 1572 := ⟨by decide +kernel, rfl⟩
theorem dL_law_1572 : uD 2 cL_law 1572 (.istore 6) 1574 := ⟨by decide +kernel, rfl⟩
theorem dL_law_1574 : uD 1 cL_law 1574 (.aload_n 2) 1575 := ⟨by decide +kernel, rfl⟩
theorem dL_law_1575 : uD 1 cL_law 1575 (.aload_n 0) 1576 := ⟨by decide +kernel, rfl⟩
theorem dL_law_1576 : uD 2 cL_law 1576 (.iload 5) 1578 := ⟨by decide +kernel, rfl⟩
theorem dL_law_1578 : uD 1 cL_law 1578 (.iconst 1) 1579 := ⟨by decide +kernel, rfl⟩
theorem dL_law_1579 : uD 1 cL_law 1579 (.iadd) 1580 := ⟨by decide +kernel, rfl⟩
theorem dL_law_1580 : uD 1 cL_law 1580 (.iaload) 1581 := ⟨by decide +kernel, rfl⟩
theorem dL_law_1581 : uD 3 cL_law 1581 (.invokevirtual 209) 1584 := ⟨by decide +kernel, rfl⟩
theorem dL_law_1584 : uD 2 cL_law 1584 (.istore 7) 1586 := ⟨by decide +kernel, rfl⟩
theorem dL_law_1586 : uD 1 cL_law 1586 (.aload_n 2) 1587 := ⟨by decide +kernel, rfl⟩
theorem dL_law_1587 : uD 3 cL_law 1587 (.invokevirtual 125) 1590 := ⟨by decide +kernel, rfl⟩
theorem dL_law_1590 : uD 2 cL_law 1590 (.iload 6) 1592 := ⟨by decide +kernel, rfl⟩
theorem dL_law_1592 : uJ cL_law 1592 (fun o => .if_icmp .eq o) 1597 1595 := ⟨5, by decide +kernel, by decide, rfl⟩
theorem dL_law_1595 : uD 1 cL_law 1595 (.iconst 0) 1596 := ⟨by decide +kernel, rfl⟩
theorem dL_law_1596 : uD 1 cL_law 1596 (.ireturn) 1597 := ⟨by decide +kernel, rfl⟩
theorem dL_law_1597 : uD 2 cL_law 1597 (.iload 6) 1599 := ⟨by decide +kernel, rfl⟩
theorem dL_law_1599 : uJ cL_law 1599 (fun o => .ifCond .ne o) 1614 1602 := ⟨15, by decide +kernel, by decide, rfl⟩
theorem dL_law_1602 : uD 1 cL_law 1602 (.aload_n 3) 1603 := ⟨by decide +kernel, rfl⟩
theorem dL_law_1603 : uD 1 cL_law 1603 (.iconst 0) 1604 := ⟨by decide +kernel, rfl⟩
theorem dL_law_1604 : uD 1 cL_law 1604 (.laload) 1605 := ⟨by decide +kernel, rfl⟩
theorem dL_law_1605 : uD 2 cL_law 1605 (.iload 7) 1607 := ⟨by decide +kernel, rfl⟩
theorem dL_law_1607 : uD 1 cL_law 1607 (.i2l) 1608 := ⟨by decide +kernel, rfl⟩
theorem dL_law_1608 : uD 1 cL_law 1608 (.lcmp) 1609 := ⟨by decide +kernel, rfl⟩
theorem dL_law_1609 : uJ cL_law 1609 (fun o => .ifCond .eq o) 1614 1612 := ⟨5, by decide +kernel, by decide, rfl⟩
theorem dL_law_1612 : uD 1 cL_law 1612 (.iconst 0) 1613 := ⟨by decide +kernel, rfl⟩
theorem dL_law_1613 : uD 1 cL_law 1613 (.ireturn) 1614 := ⟨by decide +kernel, rfl⟩
theorem dL_law_1614 : uJ cL_law 1614 (fun o => .goto o) 2116 1617 := ⟨502, by decide +kernel, by decide, rfl⟩
theorem dL_law_1617 : uD 1 cL_law 1617 (.aload_n 1) 1618 := ⟨by decide +kernel, rfl⟩
theorem dL_law_1618 : uD 1 cL_law 1618 (.aload_n 0) 1619 := ⟨by decide +kernel, rfl⟩
theorem dL_law_1619 : uD 2 cL_law 1619 (.iload 5) 1621 := ⟨by decide +kernel, rfl⟩
theorem dL_law_1621 : uD 1 cL_law 1621 (.iconst 1) 1622 := ⟨by decide +kernel, rfl⟩
theorem dL_law_1622 : uD 1 cL_law 1622 (.iadd) 1623 := ⟨by decide +kernel, rfl⟩
theorem dL_law_1623 : uD 1 cL_law 1623 (.iaload) 1624 := ⟨by decide +kernel, rfl⟩
theorem dL_law_1624 : uD 1 cL_law 1624 (.aload_n 3) 1625 := ⟨by decide +kernel, rfl⟩
theorem dL_law_1625 : uD 3 cL_law 1625 (.invokestatic 210) 1628 := ⟨by decide +kernel, rfl⟩
theorem dL_law_1628 : uD 2 cL_law 1628 (.istore 6) 1630 := ⟨by decide +kernel, rfl⟩
theorem dL_law_1630 : uD 1 cL_law 1630 (.aload_n 2) 1631 := ⟨by decide +kernel, rfl⟩
theorem dL_law_1631 : uD 1 cL_law 1631 (.aload_n 0) 1632 := ⟨by decide +kernel, rfl⟩
theorem dL_law_1632 : uD 2 cL_law 1632 (.iload 5) 1634 := ⟨by decide +kernel, rfl⟩
theorem dL_law_1634 : uD 1 cL_law 1634 (.iconst 1) 1635 := ⟨by decide +kernel, rfl⟩
theorem dL_law_1635 : uD 1 cL_law 1635 (.iadd) 1636 := ⟨by decide +kernel, rfl⟩
theorem dL_law_1636 : uD 1 cL_law 1636 (.iaload) 1637 := ⟨by decide +kernel, rfl⟩
theorem dL_law_1637 : uD 3 cL_law 1637 (.invokevirtual 212) 1640 := ⟨by decide +kernel, rfl⟩
theorem dL_law_1640 : uD 2 cL_law 1640 (.istore 7) 1642 := ⟨by decide +kernel, rfl⟩
theorem dL_law_1642 : uD 1 cL_law 1642 (.aload_n 2) 1643 := ⟨by decide +kernel, rfl⟩
theorem dL_law_1643 : uD 3 cL_law 1643 (.invokevirtual 125) 1646 := ⟨by decide +kernel, rfl⟩
theorem dL_law_1646 : uD 2 cL_law 1646 (.iload 6) 1648 := ⟨by decide +kernel, rfl⟩
theorem dL_law_1648 : uJ cL_law 1648 (fun o => .if_icmp .eq o) 1653 1651 := ⟨5, by decide +kernel, by decide, rfl⟩
theorem dL_law_1651 : uD 1 cL_law 1651 (.iconst 0) 1652 := ⟨by decide +kernel, rfl⟩
theorem dL_law_1652 : uD 1 cL_law 1652 (.ireturn) 1653 := ⟨by decide +kernel, rfl⟩
theorem dL_law_1653 : uD 2 cL_law 1653 (.iload 6) 1655 := ⟨by decide +kernel, rfl⟩
theorem dL_law_1655 : uJ cL_law 1655 (fun o => .ifCond .ne o) 1670 1658 := ⟨15, by decide +kernel, by decide, rfl⟩
theorem dL_law_1658 : uD 1 cL_law 1658 (.aload_n 3) 1659 := ⟨by decide +kernel, rfl⟩
theorem dL_law_1659 : uD 1 cL_law 1659 (.iconst 0) 1660 := ⟨by decide +kernel, rfl⟩
theorem dL_law_1660 : uD 1 cL_law 1660 (.laload) 1661 := ⟨by decide +kernel, rfl⟩
theorem dL_law_1661 : uD 2 cL_law 1661 (.iload 7) 1663 := ⟨by decide +kernel, rfl⟩
theorem dL_law_1663 : uD 1 cL_law 1663 (.i2l) 1664 := ⟨by decide +kernel, rfl⟩
theorem dL_law_1664 : uD 1 cL_law 1664 (.lcmp) 1665 := ⟨by decide +kernel, rfl⟩
theorem dL_law_1665 : uJ cL_law 1665 (fun o => .ifCond .eq o) 1670 1668 := ⟨5, by decide +kernel, by decide, rfl⟩
theorem dL_law_1668 : uD 1 cL_law 1668 (.iconst 0) 1669 := ⟨by decide +kernel, rfl⟩
theorem dL_law_1669 : uD 1 cL_law 1669 (.ireturn) 1670 := ⟨by decide +kernel, rfl⟩
theorem dL_law_1670 : uJ cL_law 1670 (fun o => .goto o) 2116 1673 := ⟨446, by decide +kernel, by decide, rfl⟩
theorem dL_law_1673 : uD 1 cL_law 1673 (.aload_n 1) 1674 := ⟨by decide +kernel, rfl⟩
theorem dL_law_1674 : uD 1 cL_law 1674 (.aload_n 0) 1675 := ⟨by decide +kernel, rfl⟩
theorem dL_law_1675 : uD 2 cL_law 1675 (.iload 5) 1677 := ⟨by decide +kernel, rfl⟩
theorem dL_law_1677 : uD 1 cL_law 1677 (.iconst 1) 1678 := ⟨by decide +kernel, rfl⟩
theorem dL_law_1678 : uD 1 cL_law 1678 (.iadd) 1679 := ⟨by decide +kernel, rfl⟩
theorem dL_law_1679 : uD 1 cL_law 1679 (.iaload) 1680 := ⟨by decide +kernel, rfl⟩
theorem dL_law_1680 : uD 2 cL_law 1680 (.aload 4) 1682 := ⟨by decide +kernel, rfl⟩
theorem dL_law_1682 : uD 3 cL_law 1682 (.invokestatic 213) 1685 := ⟨by decide +kernel, rfl⟩
theorem dL_law_1685 : uD 2 cL_law 1685 (.istore 6) 1687 := ⟨by decide +kernel, rfl⟩
theorem dL_law_1687 : uD 1 cL_law 1687 (.aload_n 2) 1688 := ⟨by decide +kernel, rfl⟩
theorem dL_law_1688 : uD 1 cL_law 1688 (.aload_n 0) 1689 := ⟨by decide +kernel, rfl⟩
theorem dL_law_1689 : uD 2 cL_law 1689 (.iload 5) 1691 := ⟨by decide +kernel, rfl⟩
theorem dL_law_1691 : uD 1 cL_law 1691 (.iconst 1) 1692 := ⟨by decide +kernel, rfl⟩
theorem dL_law_1692 : uD 1 cL_law 1692 (.iadd) 1693 := ⟨by decide +kernel, rfl⟩
theorem dL_law_1693 : uD 1 cL_law 1693 (.iaload) 1694 := ⟨by decide +kernel, rfl⟩
theorem dL_law_1694 : uD 3 cL_law 1694 (.invokevirtual 216) 1697 := ⟨by decide +kernel, rfl⟩
theorem dL_law_1697 : uD 2 cL_law 1697 (.dstore 7) 1699 := ⟨by decide +kernel, rfl⟩
theorem dL_law_1699 : uD 1 cL_law 1699 (.aload_n 2) 1700 := ⟨by decide +kernel, rfl⟩
theorem dL_law_1700 : uD 3 cL_law 1700 (.invokevirtual 125) 1703 := ⟨by decide +kernel, rfl⟩
theorem dL_law_1703 : uD 2 cL_law 1703 (.iload 6) 1705 := ⟨by decide +kernel, rfl⟩
theorem dL_law_1705 : uJ cL_law 1705 (fun o => .if_icmp .eq o) 1710 1708 := ⟨5, by decide +kernel, by decide, rfl⟩
theorem dL_law_1708 : uD 1 cL_law 1708 (.iconst 0) 1709 := ⟨by decide +kernel, rfl⟩
theorem dL_law_1709 : uD 1 cL_law 1709 (.ireturn) 1710 := ⟨by decide +kernel, rfl⟩
theorem dL_law_1710 : uD 2 cL_law 1710 (.iload 6) 1712 := ⟨by decide +kernel, rfl⟩
theorem dL_law_1712 : uJ cL_law 1712 (fun o => .ifCond .ne o) 1747 1715 := ⟨35, by decide +kernel, by decide, rfl⟩
theorem dL_law_1715 : uD 2 cL_law 1715 (.aload 4) 1717 := ⟨by decide +kernel, rfl⟩
theorem dL_law_1717 : uD 1 cL_law 1717 (.iconst 0) 1718 := ⟨by decide +kernel, rfl⟩
theorem dL_law_1718 : uD 1 cL_law 1718 (.daload) 1719 := ⟨by decide +kernel, rfl⟩
theorem dL_law_1719 : uD 2 cL_law 1719 (.dload 7) 1721 := ⟨by decide +kernel, rfl⟩
theorem dL_law_1721 : uD 1 cL_law 1721 (.dcmp .l) 1722 := ⟨by decide +kernel, rfl⟩
theorem dL_law_1722 : uJ cL_law 1722 (fun o => .ifCond .eq o) 1747 1725 := ⟨25, by decide +kernel, by decide, rfl⟩
theorem dL_law_1725 : uD 2 cL_law 1725 (.aload 4) 1727 := ⟨by decide +kernel, rfl⟩
theorem dL_law_1727 : uD 1 cL_law 1727 (.iconst 0) 1728 := ⟨by decide +kernel, rfl⟩
theorem dL_law_1728 : uD 1 cL_law 1728 (.daload) 1729 := ⟨by decide +kernel, rfl⟩
theorem dL_law_1729 : uD 2 cL_law 1729 (.aload 4) 1731 := ⟨by decide +kernel, rfl⟩
theorem dL_law_1731 : uD 1 cL_law 1731 (.iconst 0) 1732 := ⟨by decide +kernel, rfl⟩
theorem dL_law_1732 : uD 1 cL_law 1732 (.daload) 1733 := ⟨by decide +kernel, rfl⟩
theorem dL_law_1733 : uD 1 cL_law 1733 (.dcmp .l) 1734 := ⟨by decide +kernel, rfl⟩
theorem dL_law_1734 : uJ cL_law 1734 (fun o => .ifCond .eq o) 1745 1737 := ⟨11, by decide +kernel, by decide, rfl⟩
theorem dL_law_1737 : uD 2 cL_law 1737 (.dload 7) 1739 := ⟨by decide +kernel, rfl⟩
theorem dL_law_1739 : uD 2 cL_law 1739 (.dload 7) 1741 := ⟨by decide +kernel, rfl⟩
theorem dL_law_1741 : uD 1 cL_law 1741 (.dcmp .l) 1742 := ⟨by decide +kernel, rfl⟩
theorem dL_law_1742 : uJ cL_law 1742 (fun o => .ifCond .ne o) 1747 1745 := ⟨5, by decide +kernel, by decide, rfl⟩
theorem dL_law_1745 : uD 1 cL_law 1745 (.iconst 0) 1746 := ⟨by decide +kernel, rfl⟩
theorem dL_law_1746 : uD 1 cL_law 1746 (.ireturn) 1747 := ⟨by decide +kernel, rfl⟩
theorem dL_law_1747 : uJ cL_law 1747 (fun o => .goto o) 2116 1750 := ⟨369, by decide +kernel, by decide, rfl⟩
theorem dL_law_1750 : uD 1 cL_law 1750 (.aload_n 1) 1751 := ⟨by decide +kernel, rfl⟩
theorem dL_law_1751 : uD 1 cL_law 1751 (.aload_n 0) 1752 := ⟨by decide +kernel, rfl⟩
theorem dL_law_1752 : uD 2 cL_law 1752 (.iload 5) 1754 := ⟨by decide +kernel, rfl⟩
theorem dL_law_1754 : uD 1 cL_law 1754 (.iconst 1) 1755 := ⟨by decide +kernel, rfl⟩
theorem dL_law_1755 : uD 1 cL_law 1755 (.iadd) 1756 := ⟨by decide +kernel, rfl⟩
theorem dL_law_1756 : uD 1 cL_law 1756 (.iaload) 1757 := ⟨by decide +kernel, rfl⟩
theorem dL_law_1757 : uD 1 cL_law 1757 (.aload_n 3) 1758 := ⟨by decide +kernel, rfl⟩
theorem dL_law_1758 : uD 3 cL_law 1758 (.invokestatic 217) 1761 := ⟨by decide +kernel, rfl⟩
theorem dL_law_1761 : uD 2 cL_law 1761 (.istore 6) 1763 := ⟨by decide +kernel, rfl⟩
theorem dL_law_1763 : uD 1 cL_law 1763 (.aload_n 2) 1764 := ⟨by decide +kernel, rfl⟩
theorem dL_law_1764 : uD 1 cL_law 1764 (.aload_n 0) 1765 := ⟨by decide +kernel, rfl⟩
theorem dL_law_1765 : uD 2 cL_law 1765 (.iload 5) 1767 := ⟨by decide +kernel, rfl⟩
theorem dL_law_1767 : uD 1 cL_law 1767 (.iconst 1) 1768 := ⟨by decide +kernel, rfl⟩
theorem dL_law_1768 : uD 1 cL_law 1768 (.iadd) 1769 := ⟨by decide +kernel, rfl⟩
theorem dL_law_1769 : uD 1 cL_law 1769 (.iaload) 1770 := ⟨by decide +kernel, rfl⟩
theorem dL_law_1770 : uD 3 cL_law 1770 (.invokevirtual 219) 1773 := ⟨by decide +kernel, rfl⟩
theorem dL_law_1773 : uD 2 cL_law 1773 (.istore 7) 1775 := ⟨by decide +kernel, rfl⟩
theorem dL_law_1775 : uD 1 cL_law 1775 (.aload_n 2) 1776 := ⟨by decide +kernel, rfl⟩
theorem dL_law_1776 : uD 3 cL_law 1776 (.invokevirtual 125) 1779 := ⟨by decide +kernel, rfl⟩
theorem dL_law_1779 : uD 2 cL_law 1779 (.iload 6) 1781 := ⟨by decide +kernel, rfl⟩
theorem dL_law_1781 : uJ cL_law 1781 (fun o => .if_icmp .eq o) 1786 1784 := ⟨5, by decide +kernel, by decide, rfl⟩
theorem dL_law_1784 : uD 1 cL_law 1784 (.iconst 0) 1785 := ⟨by decide +kernel, rfl⟩
theorem dL_law_1785 : uD 1 cL_law 1785 (.ireturn) 1786 := ⟨by decide +kernel, rfl⟩
theorem dL_law_1786 : uD 2 cL_law 1786 (.iload 6) 1788 := ⟨by decide +kernel, rfl⟩
theorem dL_law_1788 : uJ cL_law 1788 (fun o => .ifCond .ne o) 1803 1791 := ⟨15, by decide +kernel, by decide, rfl⟩
theorem dL_law_1791 : uD 1 cL_law 1791 (.aload_n 3) 1792 := ⟨by decide +kernel, rfl⟩
theorem dL_law_1792 : uD 1 cL_law 1792 (.iconst 0) 1793 := ⟨by decide +kernel, rfl⟩
theorem dL_law_1793 : uD 1 cL_law 1793 (.laload) 1794 := ⟨by decide +kernel, rfl⟩
theorem dL_law_1794 : uD 2 cL_law 1794 (.iload 7) 1796 := ⟨by decide +kernel, rfl⟩
theorem dL_law_1796 : uD 1 cL_law 1796 (.i2l) 1797 := ⟨by decide +kernel, rfl⟩
theorem dL_law_1797 : uD 1 cL_law 1797 (.lcmp) 1798 := ⟨by decide +kernel, rfl⟩
theorem dL_law_1798 : uJ cL_law 1798 (fun o => .ifCond .eq o) 1803 1801 := ⟨5, by decide +kernel, by decide, rfl⟩
theorem dL_law_1801 : uD 1 cL_law 1801 (.iconst 0) 1802 := ⟨by decide +kernel, rfl⟩
theorem dL_law_1802 : uD 1 cL_law 1802 (.ireturn) 1803 := ⟨by decide +kernel, rfl⟩
theorem dL_law_1803 : uJ cL_law 1803 (fun o => .goto o) 2116 1806 := ⟨313, by decide +kernel, by decide, rfl⟩
theorem dL_law_1806 : uD 1 cL_law 1806 (.aload_n 1) 1807 := ⟨by decide +kernel, rfl⟩
theorem dL_law_1807 : uD 1 cL_law 1807 (.aload_n 0) 1808 := ⟨by decide +kernel, rfl⟩
theorem dL_law_1808 : uD 2 cL_law 1808 (.iload 5) 1810 := ⟨by decide +kernel, rfl⟩
theorem dL_law_1810 : uD 1 cL_law 1810 (.iconst 1) 1811 := ⟨by decide +kernel, rfl⟩
theorem dL_law_1811 : uD 1 cL_law 1811 (.iadd) 1812 := ⟨by decide +kernel, rfl⟩
theorem dL_law_1812 : uD 1 cL_law 1812 (.iaload) 1813 := ⟨by decide +kernel, rfl⟩
theorem dL_law_1813 : uD 1 cL_law 1813 (.aload_n 3) 1814 := ⟨by decide +kernel, rfl⟩
theorem dL_law_1814 : uD 3 cL_law 1814 (.invokestatic 220) 1817 := ⟨by decide +kernel, rfl⟩
theorem dL_law_1817 : uD 2 cL_law 1817 (.istore 6) 1819 := ⟨by decide +kernel, rfl⟩
theorem dL_law_1819 : uD 1 cL_law 1819 (.aload_n 2) 1820 := ⟨by decide +kernel, rfl⟩
theorem dL_law_1820 : uD 1 cL_law 1820 (.aload_n 0) 1821 := ⟨by decide +kernel, rfl⟩
theorem dL_law_1821 : uD 2 cL_law 1821 (.iload 5) 1823 := ⟨by decide +kernel, rfl⟩
theorem dL_law_1823 : uD 1 cL_law 1823 (.iconst 1) 1824 := ⟨by decide +kernel, rfl⟩
theorem dL_law_1824 : uD 1 cL_law 1824 (.iadd) 1825 := ⟨by decide +kernel, rfl⟩
theorem dL_law_1825 : uD 1 cL_law 1825 (.iaload) 1826 := ⟨by decide +kernel, rfl⟩
theorem dL_law_1826 : uD 3 cL_law 1826 (.invokevirtual 222) 1829 := ⟨by decide +kernel, rfl⟩
theorem dL_law_1829 : uD 2 cL_law 1829 (.istore 7) 1831 := ⟨by decide +kernel, rfl⟩
theorem dL_law_1831 : uD 1 cL_law 1831 (.aload_n 2) 1832 := ⟨by decide +kernel, rfl⟩
theorem dL_law_1832 : uD 3 cL_law 1832 (.invokevirtual 125) 1835 := ⟨by decide +kernel, rfl⟩
theorem dL_law_1835 : uD 2 cL_law 1835 (.iload 6) 1837 := ⟨by decide +kernel, rfl⟩
theorem dL_law_1837 : uJ cL_law 1837 (fun o => .if_icmp .eq o) 1842 1840 := ⟨5, by decide +kernel, by decide, rfl⟩
theorem dL_law_1840 : uD 1 cL_law 1840 (.iconst 0) 1841 := ⟨by decide +kernel, rfl⟩
theorem dL_law_1841 : uD 1 cL_law 1841 (.ireturn) 1842 := ⟨by decide +kernel, rfl⟩
theorem dL_law_1842 : uD 2 cL_law 1842 (.iload 6) 1844 := ⟨by decide +kernel, rfl⟩
theorem dL_law_1844 : uJ cL_law 1844 (fun o => .ifCond .ne o) 1859 1847 := ⟨15, by decide +kernel, by decide, rfl⟩
theorem dL_law_1847 : uD 1 cL_law 1847 (.aload_n 3) 1848 := ⟨by decide +kernel, rfl⟩
theorem dL_law_1848 : uD 1 cL_law 1848 (.iconst 0) 1849 := ⟨by decide +kernel, rfl⟩
theorem dL_law_1849 : uD 1 cL_law 1849 (.laload) 1850 := ⟨by decide +kernel, rfl⟩
theorem dL_law_1850 : uD 2 cL_law 1850 (.iload 7) 1852 := ⟨by decide +kernel, rfl⟩
theorem dL_law_1852 : uD 1 cL_law 1852 (.i2l) 1853 := ⟨by decide +kernel, rfl⟩
theorem dL_law_1853 : uD 1 cL_law 1853 (.lcmp) 1854 := ⟨by decide +kernel, rfl⟩
theorem dL_law_1854 : uJ cL_law 1854 (fun o => .ifCond .eq o) 1859 1857 := ⟨5, by decide +kernel, by decide, rfl⟩
theorem dL_law_1857 : uD 1 cL_law 1857 (.iconst 0) 1858 := ⟨by decide +kernel, rfl⟩
theorem dL_law_1858 : uD 1 cL_law 1858 (.ireturn) 1859 := ⟨by decide +kernel, rfl⟩
theorem dL_law_1859 : uJ cL_law 1859 (fun o => .goto o) 2116 1862 := ⟨257, by decide +kernel, by decide, rfl⟩
theorem dL_law_1862 : uD 1 cL_law 1862 (.aload_n 1) 1863 := ⟨by decide +kernel, rfl⟩
theorem dL_law_1863 : uD 3 cL_law 1863 (.invokevirtual 223) 1866 := ⟨by decide +kernel, rfl⟩
theorem dL_law_1866 : uD 1 cL_law 1866 (.aload_n 2) 1867 := ⟨by decide +kernel, rfl⟩
theorem dL_law_1867 : uD 3 cL_law 1867 (.invokevirtual 226) 1870 := ⟨by decide +kernel, rfl⟩
theorem dL_law_1870 : uJ cL_law 1870 (fun o => .if_icmp .eq o) 2116 1873 := ⟨246, by decide +kernel, by decide, rfl⟩
theorem dL_law_1873 : uD 1 cL_law 1873 (.iconst 0) 1874 := ⟨by decide +kernel, rfl⟩
theorem dL_law_1874 : uD 1 cL_law 1874 (.ireturn) 1875 := ⟨by decide +kernel, rfl⟩
theorem dL_law_1875 : uD 1 cL_law 1875 (.aload_n 1) 1876 := ⟨by decide +kernel, rfl⟩
theorem dL_law_1876 : uD 1 cL_law 1876 (.aload_n 0) 1877 := ⟨by decide +kernel, rfl⟩
theorem dL_law_1877 : uD 2 cL_law 1877 (.iload 5) 1879 := ⟨by decide +kernel, rfl⟩
theorem dL_law_1879 : uD 1 cL_law 1879 (.iconst 1) 1880 := ⟨by decide +kernel, rfl⟩
theorem dL_law_1880 : uD 1 cL_law 1880 (.iadd) 1881 := ⟨by decide +kernel, rfl⟩
theorem dL_law_1881 : uD 1 cL_law 1881 (.iaload) 1882 := ⟨by decide +kernel, rfl⟩
theorem dL_law_1882 : uD 1 cL_law 1882 (.aload_n 3) 1883 := ⟨by decide +kernel, rfl⟩
theorem dL_law_1883 : uD 3 cL_law 1883 (.invokestatic 227) 1886 := ⟨by decide +kernel, rfl⟩
theorem dL_law_1886 : uD 2 cL_law 1886 (.istore 6) 1888 := ⟨by decide +kernel, rfl⟩
theorem dL_law_1888 : uD 1 cL_law 1888 (.aload_n 2) 1889 := ⟨by decide +kernel, rfl⟩
theorem dL_law_1889 : uD 1 cL_law 1889 (.aload_n 0) 1890 := ⟨by decide +kernel, rfl⟩
theorem dL_law_1890 : uD 2 cL_law 1890 (.iload 5) 1892 := ⟨by decide +kernel, rfl⟩
theorem dL_law_1892 : uD 1 cL_law 1892 (.iconst 1) 1893 := ⟨by decide +kernel, rfl⟩
theorem dL_law_1893 : uD 1 cL_law 1893 (.iadd) 1894 := ⟨by decide +kernel, rfl⟩
theorem dL_law_1894 : uD 1 cL_law 1894 (.iaload) 1895 := ⟨by decide +kernel, rfl⟩
theorem dL_law_1895 : uD 3 cL_law 1895 (.invokevirtual 229) 1898 := ⟨by decide +kernel, rfl⟩
theorem dL_law_1898 : uD 2 cL_law 1898 (.istore 7) 1900 := ⟨by decide +kernel, rfl⟩
theorem dL_law_1900 : uD 1 cL_law 1900 (.aload_n 2) 1901 := ⟨by decide +kernel, rfl⟩
theorem dL_law_1901 : uD 3 cL_law 1901 (.invokevirtual 125) 1904 := ⟨by decide +kernel, rfl⟩
theorem dL_law_1904 : uD 2 cL_law 1904 (.iload 6) 1906 := ⟨by decide +kernel, rfl⟩
theorem dL_law_1906 : uJ cL_law 1906 (fun o => .if_icmp .eq o) 1911 1909 := ⟨5, by decide +kernel, by decide, rfl⟩
theorem dL_law_1909 : uD 1 cL_law 1909 (.iconst 0) 1910 := ⟨by decide +kernel, rfl⟩
theorem dL_law_1910 : uD 1 cL_law 1910 (.ireturn) 1911 := ⟨by decide +kernel, rfl⟩
theorem dL_law_1911 : uD 2 cL_law 1911 (.iload 6) 1913 := ⟨by decide +kernel, rfl⟩
theorem dL_law_1913 : uJ cL_law 1913 (fun o => .ifCond .ne o) 1928 1916 := ⟨15, by decide +kernel, by decide, rfl⟩
theorem dL_law_1916 : uD 1 cL_law 1916 (.aload_n 3) 1917 := ⟨by decide +kernel, rfl⟩
theorem dL_law_1917 : uD 1 cL_law 1917 (.iconst 0) 1918 := ⟨by decide +kernel, rfl⟩
theorem dL_law_1918 : uD 1 cL_law 1918 (.laload) 1919 := ⟨by decide +kernel, rfl⟩
theorem dL_law_1919 : uD 2 cL_law 1919 (.iload 7) 1921 := ⟨by decide +kernel, rfl⟩
theorem dL_law_1921 : uD 1 cL_law 1921 (.i2l) 1922 := ⟨by decide +kernel, rfl⟩
theorem dL_law_1922 : uD 1 cL_law 1922 (.lcmp) 1923 := ⟨by decide +kernel, rfl⟩
theorem dL_law_1923 : uJ cL_law 1923 (fun o => .ifCond .eq o) 1928 1926 := ⟨5, by decide +kernel, by decide, rfl⟩
theorem dL_law_1926 : uD 1 cL_law 1926 (.iconst 0) 1927 := ⟨by decide +kernel, rfl⟩
theorem dL_law_1927 : uD 1 cL_law 1927 (.ireturn) 1928 := ⟨by decide +kernel, rfl⟩
theorem dL_law_1928 : uJ cL_law 1928 (fun o => .goto o) 2116 1931 := ⟨188, by decide +kernel, by decide, rfl⟩
theorem dL_law_1931 : uD 1 cL_law 1931 (.aload_n 1) 1932 := ⟨by decide +kernel, rfl⟩
theorem dL_law_1932 : uD 3 cL_law 1932 (.invokevirtual 230) 1935 := ⟨by decide +kernel, rfl⟩
theorem dL_law_1935 : uD 1 cL_law 1935 (.aload_n 2) 1936 := ⟨by decide +kernel, rfl⟩
theorem dL_law_1936 : uD 3 cL_law 1936 (.invokevirtual 233) 1939 := ⟨by decide +kernel, rfl⟩
theorem dL_law_1939 : uJ cL_law 1939 (fun o => .if_icmp .eq o) 2116 1942 := ⟨177, by decide +kernel, by decide, rfl⟩
theorem dL_law_1942 : uD 1 cL_law 1942 (.iconst 0) 1943 := ⟨by decide +kernel, rfl⟩
theorem dL_law_1943 : uD 1 cL_law 1943 (.ireturn) 1944 := ⟨by decide +kernel, rfl⟩
theorem dL_law_1944 : uD 1 cL_law 1944 (.aload_n 1) 1945 := ⟨by decide +kernel, rfl⟩
theorem dL_law_1945 : uD 1 cL_law 1945 (.aload_n 0) 1946 := ⟨by decide +kernel, rfl⟩
theorem dL_law_1946 : uD 2 cL_law 1946 (.iload 5) 1948 := ⟨by decide +kernel, rfl⟩
theorem dL_law_1948 : uD 1 cL_law 1948 (.iconst 1) 1949 := ⟨by decide +kernel, rfl⟩
theorem dL_law_1949 : uD 1 cL_law 1949 (.iadd) 1950 := ⟨by decide +kernel, rfl⟩
theorem dL_law_1950 : uD 1 cL_law 1950 (.iaload) 1951 := ⟨by decide +kernel, rfl⟩
theorem dL_law_1951 : uD 1 cL_law 1951 (.aload_n 3) 1952 := ⟨by decide +kernel, rfl⟩
theorem dL_law_1952 : uD 3 cL_law 1952 (.invokestatic 234) 1955 := ⟨by decide +kernel, rfl⟩
theorem dL_law_1955 : uD 2 cL_law 1955 (.istore 6) 1957 := ⟨by decide +kernel, rfl⟩
theorem dL_law_1957 : uD 1 cL_law 1957 (.aload_n 2) 1958 := ⟨by decide +kernel, rfl⟩
theorem dL_law_1958 : uD 1 cL_law 1958 (.aload_n 0) 1959 := ⟨by decide +kernel, rfl⟩
theorem dL_law_1959 : uD 2 cL_law 1959 (.iload 5) 1961 := ⟨by decide +kernel, rfl⟩
theorem dL_law_1961 : uD 1 cL_law 1961 (.iconst 1) 1962 := ⟨by decide +kernel, rfl⟩
theorem dL_law_1962 : uD 1 cL_law 1962 (.iadd) 1963 := ⟨by decide +kernel, rfl⟩
theorem dL_law_1963 : uD 1 cL_law 1963 (.iaload) 1964 := ⟨by decide +kernel, rfl⟩
theorem dL_law_1964 : uD 3 cL_law 1964 (.invokevirtual 236) 1967 := ⟨by decide +kernel, rfl⟩
theorem dL_law_1967 : uD 2 cL_law 1967 (.istore 7) 1969 := ⟨by decide +kernel, rfl⟩
theorem dL_law_1969 : uD 1 cL_law 1969 (.aload_n 2) 1970 := ⟨by decide +kernel, rfl⟩
theorem dL_law_1970 : uD 3 cL_law 1970 (.invokevirtual 125) 1973 := ⟨by decide +kernel, rfl⟩
theorem dL_law_1973 : uD 2 cL_law 1973 (.iload 6) 1975 := ⟨by decide +kernel, rfl⟩
theorem dL_law_1975 : uJ cL_law 1975 (fun o => .if_icmp .eq o) 1980 1978 := ⟨5, by decide +kernel, by decide, rfl⟩
theorem dL_law_1978 : uD 1 cL_law 1978 (.iconst 0) 1979 := ⟨by decide +kernel, rfl⟩
theorem dL_law_1979 : uD 1 cL_law 1979 (.ireturn) 1980 := ⟨by decide +kernel, rfl⟩
theorem dL_law_1980 : uD 2 cL_law 1980 (.iload 6) 1982 := ⟨by decide +kernel, rfl⟩
theorem dL_law_1982 : uJ cL_law 1982 (fun o => .ifCond .ne o) 1997 1985 := ⟨15, by decide +kernel, by decide, rfl⟩
theorem dL_law_1985 : uD 1 cL_law 1985 (.aload_n 3) 1986 := ⟨by decide +kernel, rfl⟩
theorem dL_law_1986 : uD 1 cL_law 1986 (.iconst 0) 1987 := ⟨by decide +kernel, rfl⟩
theorem dL_law_1987 : uD 1 cL_law 1987 (.laload) 1988 := ⟨by decide +kernel, rfl⟩
theorem dL_law_1988 : uD 2 cL_law 1988 (.iload 7) 1990 := ⟨by decide +kernel, rfl⟩
theorem dL_law_1990 : uD 1 cL_law 1990 (.i2l) 1991 := ⟨by decide +kernel, rfl⟩
theorem dL_law_1991 : uD 1 cL_law 1991 (.lcmp) 1992 := ⟨by decide +kernel, rfl⟩
theorem dL_law_1992 : uJ cL_law 1992 (fun o => .ifCond .eq o) 1997 1995 := ⟨5, by decide +kernel, by decide, rfl⟩
theorem dL_law_1995 : uD 1 cL_law 1995 (.iconst 0) 1996 := ⟨by decide +kernel, rfl⟩
theorem dL_law_1996 : uD 1 cL_law 1996 (.ireturn) 1997 := ⟨by decide +kernel, rfl⟩
theorem dL_law_1997 : uJ cL_law 1997 (fun o => .goto o) 2116 2000 := ⟨119, by decide +kernel, by decide, rfl⟩
theorem dL_law_2000 : uD 1 cL_law 2000 (.aload_n 1) 2001 := ⟨by decide +kernel, rfl⟩
theorem dL_law_2001 : uD 1 cL_law 2001 (.aload_n 3) 2002 := ⟨by decide +kernel, rfl⟩
theorem dL_law_2002 : uD 3 cL_law 2002 (.invokestatic 237) 2005 := ⟨by decide +kernel, rfl⟩
theorem dL_law_2005 : uD 2 cL_law 2005 (.istore 6) 2007 := ⟨by decide +kernel, rfl⟩
theorem dL_law_2007 : uD 1 cL_law 2007 (.aload_n 2) 2008 := ⟨by decide +kernel, rfl⟩
theorem dL_law_2008 : uD 3 cL_law 2008 (.invokevirtual 239) 2011 := ⟨by decide +kernel, rfl⟩
theorem dL_law_2011 : uD 2 cL_law 2011 (.istore 7) 2013 := ⟨by decide +kernel, rfl⟩
theorem dL_law_2013 : uD 1 cL_law 2013 (.aload_n 2) 2014 := ⟨by decide +kernel, rfl⟩
theorem dL_law_2014 : uD 3 cL_law 2014 (.invokevirtual 125) 2017 := ⟨by decide +kernel, rfl⟩
theorem dL_law_2017 : uD 2 cL_law 2017 (.iload 6) 2019 := ⟨by decide +kernel, rfl⟩
theorem dL_law_2019 : uJ cL_law 2019 (fun o => .if_icmp .eq o) 2024 2022 := ⟨5, by decide +kernel, by decide, rfl⟩
theorem dL_law_2022 : uD 1 cL_law 2022 (.iconst 0) 2023 := ⟨by decide +kernel, rfl⟩
theorem dL_law_2023 : uD 1 cL_law 2023 (.ireturn) 2024 := ⟨by decide +kernel, rfl⟩
theorem dL_law_2024 : uD 2 cL_law 2024 (.iload 6) 2026 := ⟨by decide +kernel, rfl⟩
theorem dL_law_2026 : uJ cL_law 2026 (fun o => .ifCond .ne o) 2041 2029 := ⟨15, by decide +kernel, by decide, rfl⟩
theorem dL_law_2029 : uD 1 cL_law 2029 (.aload_n 3) 2030 := ⟨by decide +kernel, rfl⟩
theorem dL_law_2030 : uD 1 cL_law 2030 (.iconst 0) 2031 := ⟨by decide +kernel, rfl⟩
theorem dL_law_2031 : uD 1 cL_law 2031 (.laload) 2032 := ⟨by decide +kernel, rfl⟩
theorem dL_law_2032 : uD 2 cL_law 2032 (.iload 7) 2034 := ⟨by decide +kernel, rfl⟩
theorem dL_law_2034 : uD 1 cL_law 2034 (.i2l) 2035 := ⟨by decide +kernel, rfl⟩
theorem dL_law_2035 : uD 1 cL_law 2035 (.lcmp) 2036 := ⟨by decide +kernel, rfl⟩
theorem dL_law_2036 : uJ cL_law 2036 (fun o => .ifCond .eq o) 2041 2039 := ⟨5, by decide +kernel, by decide, rfl⟩
theorem dL_law_2039 : uD 1 cL_law 2039 (.iconst 0) 2040 := ⟨by decide +kernel, rfl⟩
theorem dL_law_2040 : uD 1 cL_law 2040 (.ireturn) 2041 := ⟨by decide +kernel, rfl⟩
theorem dL_law_2041 : uJ cL_law 2041 (fun o => .goto o) 2116 2044 := ⟨75, by decide +kernel, by decide, rfl⟩
theorem dL_law_2044 : uD 1 cL_law 2044 (.aload_n 1) 2045 := ⟨by decide +kernel, rfl⟩
theorem dL_law_2045 : uD 1 cL_law 2045 (.aload_n 0) 2046 := ⟨by decide +kernel, rfl⟩
theorem dL_law_2046 : uD 2 cL_law 2046 (.iload 5) 2048 := ⟨by decide +kernel, rfl⟩
theorem dL_law_2048 : uD 1 cL_law 2048 (.iconst 1) 2049 := ⟨by decide +kernel, rfl⟩
theorem dL_law_2049 : uD 1 cL_law 2049 (.iadd) 2050 := ⟨by decide +kernel, rfl⟩
theorem dL_law_2050 : uD 1 cL_law 2050 (.iaload) 2051 := ⟨by decide +kernel, rfl⟩
theorem dL_law_2051 : uD 3 cL_law 2051 (.invokestatic 240) 2054 := ⟨by decide +kernel, rfl⟩
theorem dL_law_2054 : uD 2 cL_law 2054 (.istore 6) 2056 := ⟨by decide +kernel, rfl⟩
theorem dL_law_2056 : uD 1 cL_law 2056 (.aload_n 2) 2057 := ⟨by decide +kernel, rfl⟩
theorem dL_law_2057 : uD 1 cL_law 2057 (.aload_n 0) 2058 := ⟨by decide +kernel, rfl⟩
theorem dL_law_2058 : uD 2 cL_law 2058 (.iload 5) 2060 := ⟨by decide +kernel, rfl⟩
theorem dL_law_2060 : uD 1 cL_law 2060 (.iconst 1) 2061 := ⟨by decide +kernel, rfl⟩
theorem dL_law_2061 : uD 1 cL_law 2061 (.iadd) 2062 := ⟨by decide +kernel, rfl⟩
theorem dL_law_2062 : uD 1 cL_law 2062 (.iaload) 2063 := ⟨by decide +kernel, rfl⟩
theorem dL_law_2063 : uD 3 cL_law 2063 (.invokevirtual 243) 2066 := ⟨by decide +kernel, rfl⟩
theorem dL_law_2066 : uD 1 cL_law 2066 (.aload_n 2) 2067 := ⟨by decide +kernel, rfl⟩
theorem dL_law_2067 : uD 3 cL_law 2067 (.invokevirtual 125) 2070 := ⟨by decide +kernel, rfl⟩
theorem dL_law_2070 : uD 2 cL_law 2070 (.iload 6) 2072 := ⟨by decide +kernel, rfl⟩
theorem dL_law_2072 : uJ cL_law 2072 (fun o => .if_icmp .eq o) 2077 2075 := ⟨5, by decide +kernel, by decide, rfl⟩
theorem dL_law_2075 : uD 1 cL_law 2075 (.iconst 0) 2076 := ⟨by decide +kernel, rfl⟩
theorem dL_law_2076 : uD 1 cL_law 2076 (.ireturn) 2077 := ⟨by decide +kernel, rfl⟩
theorem dL_law_2077 : uJ cL_law 2077 (fun o => .goto o) 2116 2080 := ⟨39, by decide +kernel, by decide, rfl⟩
theorem dL_law_2080 : uD 1 cL_law 2080 (.aload_n 1) 2081 := ⟨by decide +kernel, rfl⟩
theorem dL_law_2081 : uD 1 cL_law 2081 (.aload_n 0) 2082 := ⟨by decide +kernel, rfl⟩
theorem dL_law_2082 : uD 2 cL_law 2082 (.iload 5) 2084 := ⟨by decide +kernel, rfl⟩
theorem dL_law_2084 : uD 1 cL_law 2084 (.iconst 1) 2085 := ⟨by decide +kernel, rfl⟩
theorem dL_law_2085 : uD 1 cL_law 2085 (.iadd) 2086 := ⟨by decide +kernel, rfl⟩
theorem dL_law_2086 : uD 1 cL_law 2086 (.iaload) 2087 := ⟨by decide +kernel, rfl⟩
theorem dL_law_2087 : uD 3 cL_law 2087 (.invokestatic 244) 2090 := ⟨by decide +kernel, rfl⟩
theorem dL_law_2090 : uD 2 cL_law 2090 (.istore 6) 2092 := ⟨by decide +kernel, rfl⟩
theorem dL_law_2092 : uD 1 cL_law 2092 (.aload_n 2) 2093 := ⟨by decide +kernel, rfl⟩
theorem dL_law_2093 : uD 1 cL_law 2093 (.aload_n 0) 2094 := ⟨by decide +kernel, rfl⟩
theorem dL_law_2094 : uD 2 cL_law 2094 (.iload 5) 2096 := ⟨by decide +kernel, rfl⟩
theorem dL_law_2096 : uD 1 cL_law 2096 (.iconst 1) 2097 := ⟨by decide +kernel, rfl⟩
theorem dL_law_2097 : uD 1 cL_law 2097 (.iadd) 2098 := ⟨by decide +kernel, rfl⟩
theorem dL_law_2098 : uD 1 cL_law 2098 (.iaload) 2099 := ⟨by decide +kernel, rfl⟩
theorem dL_law_2099 : uD 3 cL_law 2099 (.invokevirtual 246) 2102 := ⟨by decide +kernel, rfl⟩
theorem dL_law_2102 : uD 1 cL_law 2102 (.aload_n 2) 2103 := ⟨by decide +kernel, rfl⟩
theorem dL_law_2103 : uD 3 cL_law 2103 (.invokevirtual 125) 2106 := ⟨by decide +kernel, rfl⟩
theorem dL_law_2106 : uD 2 cL_law 2106 (.iload 6) 2108 := ⟨by decide +kernel, rfl⟩
theorem dL_law_2108 : uJ cL_law 2108 (fun o => .if_icmp .eq o) 2113 2111 := ⟨5, by decide +kernel, by decide, rfl⟩
theorem dL_law_2111 : uD 1 cL_law 2111 (.iconst 0) 2112 := ⟨by decide +kernel, rfl⟩
theorem dL_law_2112 : uD 1 cL_law 2112 (.ireturn) 2113 := ⟨by decide +kernel, rfl⟩
theorem dL_law_2113 : uJ cL_law 2113 (fun o => .goto o) 2116 2116 := ⟨3, by decide +kernel, by decide, rfl⟩
theorem dL_law_2116 : uD 3 cL_law 2116 (.iinc 5 6) 2119 := ⟨by decide +kernel, rfl⟩
theorem dL_law_2119 : uJ cL_law 2119 (fun o => .goto o) 28 2122 := ⟨(-2091), by decide +kernel, by decide, rfl⟩
theorem dL_law_2122 : uD 1 cL_law 2122 (.iconst 1) 2123 := ⟨by decide +kernel, rfl⟩
theorem dL_law_2123 : uD 1 cL_law 2123 (.ireturn) 2124 := ⟨by decide +kernel, rfl⟩
