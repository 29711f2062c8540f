/-! ===== the law's instructions 1 ===== -/
theorem jdl13 : jdecm [jt337_13] code = true := by decide +kernel
theorem jdl14 : jdecm [jt337_14] code = true := by decide +kernel
theorem jdl15 : jdecm [jt337_15] code = true := by decide +kernel
theorem jdl16 : jdecm [jt337_16] code = true := by decide +kernel
theorem jdl17 : jdecm [jt337_17] code = true := by decide +kernel
theorem jdl18 : jdecm [jt337_18] code = true := by decide +kernel
theorem jdl19 : jdecm [jt337_19] code = true := by decide +kernel
theorem jdl20 : jdecm [jt337_20] code = true := by decide +kernel
theorem jdl21 : jdecm [jt337_21] code = true := by decide +kernel
theorem jdl22 : jdecm [jt337_22] code = true := by decide +kernel
theorem jdl23 : jdecm [jt337_23] code = true := by decide +kernel
theorem jdl24 : jdecm [jt337_24] code = true := by decide +kernel
theorem jdl25 : jdecm [jt337_25] code = true := by decide +kernel
