/-! the law's table (part 4) -/
theorem kt_LAW_24 : ztab "BellPullHouseLaw" code 4 t_LAW_24 = true := by decide +kernel
theorem kt_LAW_25 : ztab "BellPullHouseLaw" code 4 t_LAW_25 = true := by decide +kernel
theorem kt_LAW_26 : ztab "BellPullHouseLaw" code 4 t_LAW_26 = true := by decide +kernel
theorem kt_LAW_27 : ztab "BellPullHouseLaw" code 4 t_LAW_27 = true := by decide +kernel
theorem kt_LAW_28 : ztab "BellPullHouseLaw" code 4 t_LAW_28 = true := by decide +kernel
theorem kt_LAW_29 : ztab "BellPullHouseLaw" code 4 t_LAW_29 = true := by decide +kernel
