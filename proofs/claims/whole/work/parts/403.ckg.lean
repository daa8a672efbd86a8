/-! the check holds of the law, part 3 -/
theorem ck_lw_29 : ck_b (pg_y 284).2.1 (pg_cn 284) (pg_y 284).2.2.2.1 (ck_rc (pg_y 284).2.2.1) (pg_PC.getD 284 []) B_lw_law_29.2.1 B_lw_law_29.1 961 = true := by decide +kernel
theorem ck_lw_30 : ck_b (pg_y 284).2.1 (pg_cn 284) (pg_y 284).2.2.2.1 (ck_rc (pg_y 284).2.2.1) (pg_PC.getD 284 []) B_lw_law_30.2.1 B_lw_law_30.1 995 = true := by decide +kernel
theorem ck_lw_31 : ck_b (pg_y 284).2.1 (pg_cn 284) (pg_y 284).2.2.2.1 (ck_rc (pg_y 284).2.2.1) (pg_PC.getD 284 []) B_lw_law_31.2.1 B_lw_law_31.1 1059 = true := by decide +kernel
theorem ck_lw_32 : ck_b (pg_y 284).2.1 (pg_cn 284) (pg_y 284).2.2.2.1 (ck_rc (pg_y 284).2.2.1) (pg_PC.getD 284 []) B_lw_law_32.2.1 B_lw_law_32.1 1112 = true := by decide +kernel
theorem ck_lw_33 : ck_b (pg_y 284).2.1 (pg_cn 284) (pg_y 284).2.2.2.1 (ck_rc (pg_y 284).2.2.1) (pg_PC.getD 284 []) B_lw_law_33.2.1 B_lw_law_33.1 1165 = true := by decide +kernel
theorem ck_lw_34 : ck_b (pg_y 284).2.1 (pg_cn 284) (pg_y 284).2.2.2.1 (ck_rc (pg_y 284).2.2.1) (pg_PC.getD 284 []) B_lw_law_34.2.1 B_lw_law_34.1 1208 = true := by decide +kernel
theorem ck_lw_35 : ck_b (pg_y 284).2.1 (pg_cn 284) (pg_y 284).2.2.2.1 (ck_rc (pg_y 284).2.2.1) (pg_PC.getD 284 []) B_lw_law_35.2.1 B_lw_law_35.1 1242 = true := by decide +kernel
theorem ck_lw_36 : ck_b (pg_y 284).2.1 (pg_cn 284) (pg_y 284).2.2.2.1 (ck_rc (pg_y 284).2.2.1) (pg_PC.getD 284 []) B_lw_law_36.2.1 B_lw_law_36.1 1276 = true := by decide +kernel
theorem ck_lw_37 : ck_b (pg_y 284).2.1 (pg_cn 284) (pg_y 284).2.2.2.1 (ck_rc (pg_y 284).2.2.1) (pg_PC.getD 284 []) B_lw_law_37.2.1 B_lw_law_37.1 1299 = true := by decide +kernel
theorem ck_lw_38 : ck_b (pg_y 284).2.1 (pg_cn 284) (pg_y 284).2.2.2.1 (ck_rc (pg_y 284).2.2.1) (pg_PC.getD 284 []) B_lw_law_38.2.1 B_lw_law_38.1 1332 = true := by decide +kernel
theorem ck_lw_39 : ck_b (pg_y 284).2.1 (pg_cn 284) (pg_y 284).2.2.2.1 (ck_rc (pg_y 284).2.2.1) (pg_PC.getD 284 []) B_lw_law_39.2.1 B_lw_law_39.1 1355 = true := by decide +kernel
theorem ck_lw_40 : ck_b (pg_y 284).2.1 (pg_cn 284) (pg_y 284).2.2.2.1 (ck_rc (pg_y 284).2.2.1) (pg_PC.getD 284 []) B_lw_law_40.2.1 B_lw_law_40.1 1419 = true := by decide +kernel
theorem ck_lw_41 : ck_b (pg_y 284).2.1 (pg_cn 284) (pg_y 284).2.2.2.1 (ck_rc (pg_y 284).2.2.1) (pg_PC.getD 284 []) B_lw_law_41.2.1 B_lw_law_41.1 1462 = true := by decide +kernel
theorem ck_lw_42 : ck_b (pg_y 284).2.1 (pg_cn 284) (pg_y 284).2.2.2.1 (ck_rc (pg_y 284).2.2.1) (pg_PC.getD 284 []) B_lw_law_42.2.1 B_lw_law_42.1 1506 = true := by decide +kernel
