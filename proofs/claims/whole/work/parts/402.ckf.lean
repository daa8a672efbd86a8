/-! the check holds of the law, part 2 -/
theorem ck_lw_14 : ck_b (pg_y 284).2.1 (pg_cn 284) (pg_y 284).2.2.2.1 (ck_rc (pg_y 284).2.2.1) (pg_PC.getD 284 []) B_lw_law_14.2.1 B_lw_law_14.1 491 = true := by decide +kernel
theorem ck_lw_15 : ck_b (pg_y 284).2.1 (pg_cn 284) (pg_y 284).2.2.2.1 (ck_rc (pg_y 284).2.2.1) (pg_PC.getD 284 []) B_lw_law_15.2.1 B_lw_law_15.1 509 = true := by decide +kernel
theorem ck_lw_16 : ck_b (pg_y 284).2.1 (pg_cn 284) (pg_y 284).2.2.2.1 (ck_rc (pg_y 284).2.2.1) (pg_PC.getD 284 []) B_lw_law_16.2.1 B_lw_law_16.1 542 = true := by decide +kernel
theorem ck_lw_17 : ck_b (pg_y 284).2.1 (pg_cn 284) (pg_y 284).2.2.2.1 (ck_rc (pg_y 284).2.2.1) (pg_PC.getD 284 []) B_lw_law_17.2.1 B_lw_law_17.1 585 = true := by decide +kernel
theorem ck_lw_18 : ck_b (pg_y 284).2.1 (pg_cn 284) (pg_y 284).2.2.2.1 (ck_rc (pg_y 284).2.2.1) (pg_PC.getD 284 []) B_lw_law_18.2.1 B_lw_law_18.1 618 = true := by decide +kernel
theorem ck_lw_19 : ck_b (pg_y 284).2.1 (pg_cn 284) (pg_y 284).2.2.2.1 (ck_rc (pg_y 284).2.2.1) (pg_PC.getD 284 []) B_lw_law_19.2.1 B_lw_law_19.1 662 = true := by decide +kernel
theorem ck_lw_20 : ck_b (pg_y 284).2.1 (pg_cn 284) (pg_y 284).2.2.2.1 (ck_rc (pg_y 284).2.2.1) (pg_PC.getD 284 []) B_lw_law_20.2.1 B_lw_law_20.1 706 = true := by decide +kernel
theorem ck_lw_21 : ck_b (pg_y 284).2.1 (pg_cn 284) (pg_y 284).2.2.2.1 (ck_rc (pg_y 284).2.2.1) (pg_PC.getD 284 []) B_lw_law_21.2.1 B_lw_law_21.1 724 = true := by decide +kernel
theorem ck_lw_22 : ck_b (pg_y 284).2.1 (pg_cn 284) (pg_y 284).2.2.2.1 (ck_rc (pg_y 284).2.2.1) (pg_PC.getD 284 []) B_lw_law_22.2.1 B_lw_law_22.1 725 = true := by decide +kernel
theorem ck_lw_23 : ck_b (pg_y 284).2.1 (pg_cn 284) (pg_y 284).2.2.2.1 (ck_rc (pg_y 284).2.2.1) (pg_PC.getD 284 []) B_lw_law_23.2.1 B_lw_law_23.1 756 = true := by decide +kernel
theorem ck_lw_24 : ck_b (pg_y 284).2.1 (pg_cn 284) (pg_y 284).2.2.2.1 (ck_rc (pg_y 284).2.2.1) (pg_PC.getD 284 []) B_lw_law_24.2.1 B_lw_law_24.1 757 = true := by decide +kernel
theorem ck_lw_25 : ck_b (pg_y 284).2.1 (pg_cn 284) (pg_y 284).2.2.2.1 (ck_rc (pg_y 284).2.2.1) (pg_PC.getD 284 []) B_lw_law_25.2.1 B_lw_law_25.1 775 = true := by decide +kernel
theorem ck_lw_26 : ck_b (pg_y 284).2.1 (pg_cn 284) (pg_y 284).2.2.2.1 (ck_rc (pg_y 284).2.2.1) (pg_PC.getD 284 []) B_lw_law_26.2.1 B_lw_law_26.1 829 = true := by decide +kernel
theorem ck_lw_27 : ck_b (pg_y 284).2.1 (pg_cn 284) (pg_y 284).2.2.2.1 (ck_rc (pg_y 284).2.2.1) (pg_PC.getD 284 []) B_lw_law_27.2.1 B_lw_law_27.1 883 = true := by decide +kernel
theorem ck_lw_28 : ck_b (pg_y 284).2.1 (pg_cn 284) (pg_y 284).2.2.2.1 (ck_rc (pg_y 284).2.2.1) (pg_PC.getD 284 []) B_lw_law_28.2.1 B_lw_law_28.1 927 = true := by decide +kernel
