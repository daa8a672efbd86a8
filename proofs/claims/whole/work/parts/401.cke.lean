/-! the check holds of the law, part 1 -/
theorem ck_lw_0 : ck_b (pg_y 284).2.1 (pg_cn 284) (pg_y 284).2.2.2.1 (ck_rc (pg_y 284).2.2.1) (pg_PC.getD 284 []) B_lw_law_0.2.1 B_lw_law_0.1 0 = true := by decide +kernel
theorem ck_lw_1 : ck_b (pg_y 284).2.1 (pg_cn 284) (pg_y 284).2.2.2.1 (ck_rc (pg_y 284).2.2.1) (pg_PC.getD 284 []) B_lw_law_1.2.1 B_lw_law_1.1 18 = true := by decide +kernel
theorem ck_lw_2 : ck_b (pg_y 284).2.1 (pg_cn 284) (pg_y 284).2.2.2.1 (ck_rc (pg_y 284).2.2.1) (pg_PC.getD 284 []) B_lw_law_2.2.1 B_lw_law_2.1 216 = true := by decide +kernel
theorem ck_lw_3 : ck_b (pg_y 284).2.1 (pg_cn 284) (pg_y 284).2.2.2.1 (ck_rc (pg_y 284).2.2.1) (pg_PC.getD 284 []) B_lw_law_3.2.1 B_lw_law_3.1 279 = true := by decide +kernel
theorem ck_lw_4 : ck_b (pg_y 284).2.1 (pg_cn 284) (pg_y 284).2.2.2.1 (ck_rc (pg_y 284).2.2.1) (pg_PC.getD 284 []) B_lw_law_4.2.1 B_lw_law_4.1 292 = true := by decide +kernel
theorem ck_lw_5 : ck_b (pg_y 284).2.1 (pg_cn 284) (pg_y 284).2.2.2.1 (ck_rc (pg_y 284).2.2.1) (pg_PC.getD 284 []) B_lw_law_5.2.1 B_lw_law_5.1 325 = true := by decide +kernel
theorem ck_lw_6 : ck_b (pg_y 284).2.1 (pg_cn 284) (pg_y 284).2.2.2.1 (ck_rc (pg_y 284).2.2.1) (pg_PC.getD 284 []) B_lw_law_6.2.1 B_lw_law_6.1 358 = true := by decide +kernel
theorem ck_lw_7 : ck_b (pg_y 284).2.1 (pg_cn 284) (pg_y 284).2.2.2.1 (ck_rc (pg_y 284).2.2.1) (pg_PC.getD 284 []) B_lw_law_7.2.1 B_lw_law_7.1 381 = true := by decide +kernel
theorem ck_lw_8 : ck_b (pg_y 284).2.1 (pg_cn 284) (pg_y 284).2.2.2.1 (ck_rc (pg_y 284).2.2.1) (pg_PC.getD 284 []) B_lw_law_8.2.1 B_lw_law_8.1 394 = true := by decide +kernel
theorem ck_lw_9 : ck_b (pg_y 284).2.1 (pg_cn 284) (pg_y 284).2.2.2.1 (ck_rc (pg_y 284).2.2.1) (pg_PC.getD 284 []) B_lw_law_9.2.1 B_lw_law_9.1 417 = true := by decide +kernel
theorem ck_lw_10 : ck_b (pg_y 284).2.1 (pg_cn 284) (pg_y 284).2.2.2.1 (ck_rc (pg_y 284).2.2.1) (pg_PC.getD 284 []) B_lw_law_10.2.1 B_lw_law_10.1 440 = true := by decide +kernel
theorem ck_lw_11 : ck_b (pg_y 284).2.1 (pg_cn 284) (pg_y 284).2.2.2.1 (ck_rc (pg_y 284).2.2.1) (pg_PC.getD 284 []) B_lw_law_11.2.1 B_lw_law_11.1 458 = true := by decide +kernel
theorem ck_lw_12 : ck_b (pg_y 284).2.1 (pg_cn 284) (pg_y 284).2.2.2.1 (ck_rc (pg_y 284).2.2.1) (pg_PC.getD 284 []) B_lw_law_12.2.1 B_lw_law_12.1 459 = true := by decide +kernel
theorem ck_lw_13 : ck_b (pg_y 284).2.1 (pg_cn 284) (pg_y 284).2.2.2.1 (ck_rc (pg_y 284).2.2.1) (pg_PC.getD 284 []) B_lw_law_13.2.1 B_lw_law_13.1 490 = true := by decide +kernel
