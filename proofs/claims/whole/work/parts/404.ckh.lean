/-! the check holds of the law, part 4 -/
theorem ck_lw_43 : ck_b (pg_y 284).2.1 (pg_cn 284) (pg_y 284).2.2.2.1 (ck_rc (pg_y 284).2.2.1) (pg_PC.getD 284 []) B_lw_law_43.2.1 B_lw_law_43.1 1582 = true := by decide +kernel
theorem ck_lw_44 : ck_b (pg_y 284).2.1 (pg_cn 284) (pg_y 284).2.2.2.1 (ck_rc (pg_y 284).2.2.1) (pg_PC.getD 284 []) B_lw_law_44.2.1 B_lw_law_44.1 1646 = true := by decide +kernel
theorem ck_lw_45 : ck_b (pg_y 284).2.1 (pg_cn 284) (pg_y 284).2.2.2.1 (ck_rc (pg_y 284).2.2.1) (pg_PC.getD 284 []) B_lw_law_45.2.1 B_lw_law_45.1 1699 = true := by decide +kernel
theorem ck_lw_46 : ck_b (pg_y 284).2.1 (pg_cn 284) (pg_y 284).2.2.2.1 (ck_rc (pg_y 284).2.2.1) (pg_PC.getD 284 []) B_lw_law_46.2.1 B_lw_law_46.1 1732 = true := by decide +kernel
theorem ck_lw_47 : ck_b (pg_y 284).2.1 (pg_cn 284) (pg_y 284).2.2.2.1 (ck_rc (pg_y 284).2.2.1) (pg_PC.getD 284 []) B_lw_law_47.2.1 B_lw_law_47.1 1755 = true := by decide +kernel
theorem ck_lw_48 : ck_b (pg_y 284).2.1 (pg_cn 284) (pg_y 284).2.2.2.1 (ck_rc (pg_y 284).2.2.1) (pg_PC.getD 284 []) B_lw_law_48.2.1 B_lw_law_48.1 1778 = true := by decide +kernel
theorem ck_lw_49 : ck_b (pg_y 284).2.1 (pg_cn 284) (pg_y 284).2.2.2.1 (ck_rc (pg_y 284).2.2.1) (pg_PC.getD 284 []) B_lw_law_49.2.1 B_lw_law_49.1 1779 = true := by decide +kernel
theorem ck_lw_50 : ck_b (pg_y 284).2.1 (pg_cn 284) (pg_y 284).2.2.2.1 (ck_rc (pg_y 284).2.2.1) (pg_PC.getD 284 []) B_lw_law_50.2.1 B_lw_law_50.1 1815 = true := by decide +kernel
theorem ck_lw_51 : ck_b (pg_y 284).2.1 (pg_cn 284) (pg_y 284).2.2.2.1 (ck_rc (pg_y 284).2.2.1) (pg_PC.getD 284 []) B_lw_law_51.2.1 B_lw_law_51.1 1816 = true := by decide +kernel
theorem ck_lw_52 : ck_b (pg_y 284).2.1 (pg_cn 284) (pg_y 284).2.2.2.1 (ck_rc (pg_y 284).2.2.1) (pg_PC.getD 284 []) B_lw_law_52.2.1 B_lw_law_52.1 1834 = true := by decide +kernel
theorem ck_lw_53 : ck_b (pg_y 284).2.1 (pg_cn 284) (pg_y 284).2.2.2.1 (ck_rc (pg_y 284).2.2.1) (pg_PC.getD 284 []) B_lw_law_53.2.1 B_lw_law_53.1 1877 = true := by decide +kernel
theorem ck_lw_54 : ck_b (pg_y 284).2.1 (pg_cn 284) (pg_y 284).2.2.2.1 (ck_rc (pg_y 284).2.2.1) (pg_PC.getD 284 []) B_lw_law_54.2.1 B_lw_law_54.1 1890 = true := by decide +kernel
theorem ck_lw_55 : ck_b (pg_y 284).2.1 (pg_cn 284) (pg_y 284).2.2.2.1 (ck_rc (pg_y 284).2.2.1) (pg_PC.getD 284 []) B_lw_law_55.2.1 B_lw_law_55.1 1913 = true := by decide +kernel
theorem ck_lw_56 : ck_b (pg_y 284).2.1 (pg_cn 284) (pg_y 284).2.2.2.1 (ck_rc (pg_y 284).2.2.1) (pg_PC.getD 284 []) B_lw_law_56.2.1 B_lw_law_56.1 1936 = true := by decide +kernel
theorem ck_lw_57 : ck_b (pg_y 284).2.1 (pg_cn 284) (pg_y 284).2.2.2.1 (ck_rc (pg_y 284).2.2.1) (pg_PC.getD 284 []) B_lw_law_57.2.1 B_lw_law_57.1 1942 = true := by decide +kernel
