/-! ===== the law's instructions 0 ===== -/
theorem jdl0 : jdecm [jt337_0] code = true := by decide +kernel
theorem jdl1 : jdecm [jt337_1] code = true := by decide +kernel
theorem jdl2 : jdecm [jt337_2] code = true := by decide +kernel
theorem jdl3 : jdecm [jt337_3] code = true := by decide +kernel
theorem jdl4 : jdecm [jt337_4] code = true := by decide +kernel
theorem jdl5 : jdecm [jt337_5] code = true := by decide +kernel
theorem jdl6 : jdecm [jt337_6] code = true := by decide +kernel
theorem jdl7 : jdecm [jt337_7] code = true := by decide +kernel
theorem jdl8 : jdecm [jt337_8] code = true := by decide +kernel
theorem jdl9 : jdecm [jt337_9] code = true := by decide +kernel
theorem jdl10 : jdecm [jt337_10] code = true := by decide +kernel
theorem jdl11 : jdecm [jt337_11] code = true := by decide +kernel
theorem jdl12 : jdecm [jt337_12] code = true := by decide +kernel
