/-! the law's table (part 3) -/
theorem kt_LAW_16 : ztab "BellPullHouseLaw" code 4 t_LAW_16 = true := by decide +kernel
theorem kt_LAW_17 : ztab "BellPullHouseLaw" code 4 t_LAW_17 = true := by decide +kernel
theorem kt_LAW_18 : ztab "BellPullHouseLaw" code 4 t_LAW_18 = true := by decide +kernel
theorem kt_LAW_19 : ztab "BellPullHouseLaw" code 4 t_LAW_19 = true := by decide +kernel
theorem kt_LAW_20 : ztab "BellPullHouseLaw" code 4 t_LAW_20 = true := by decide +kernel
theorem kt_LAW_21 : ztab "BellPullHouseLaw" code 4 t_LAW_21 = true := by decide +kernel
theorem kt_LAW_22 : ztab "BellPullHouseLaw" code 4 t_LAW_22 = true := by decide +kernel
theorem kt_LAW_23 : ztab "BellPullHouseLaw" code 4 t_LAW_23 = true := by decide +kernel
