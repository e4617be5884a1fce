/-! the law's table (part 2) -/
theorem kt_LAW_8 : ztab "BellPullHouseLaw" code 4 t_LAW_8 = true := by decide +kernel
theorem kt_LAW_9 : ztab "BellPullHouseLaw" code 4 t_LAW_9 = true := by decide +kernel
theorem kt_LAW_10 : ztab "BellPullHouseLaw" code 4 t_LAW_10 = true := by decide +kernel
theorem kt_LAW_11 : ztab "BellPullHouseLaw" code 4 t_LAW_11 = true := by decide +kernel
theorem kt_LAW_12 : ztab "BellPullHouseLaw" code 4 t_LAW_12 = true := by decide +kernel
theorem kt_LAW_13 : ztab "BellPullHouseLaw" code 4 t_LAW_13 = true := by decide +kernel
theorem kt_LAW_14 : ztab "BellPullHouseLaw" code 4 t_LAW_14 = true := by decide +kernel
theorem kt_LAW_15 : ztab "BellPullHouseLaw" code 4 t_LAW_15 = true := by decide +kernel
