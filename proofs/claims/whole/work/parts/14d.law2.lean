/-! ===== the law's instructions 2 ===== -/
theorem jdl26 : jdecm [jt337_26] code = true := by decide +kernel
theorem jdl27 : jdecm [jt337_27] code = true := by decide +kernel
theorem jdl28 : jdecm [jt337_28] code = true := by decide +kernel
theorem jdl29 : jdecm [jt337_29] code = true := by decide +kernel
theorem jdl30 : jdecm [jt337_30] code = true := by decide +kernel
theorem jdl31 : jdecm [jt337_31] code = true := by decide +kernel
theorem jdl32 : jdecm [jt337_32] code = true := by decide +kernel
theorem jdl33 : jdecm [jt337_33] code = true := by decide +kernel
theorem jdl34 : jdecm [jt337_34] code = true := by decide +kernel
theorem jdl35 : jdecm [jt337_35] code = true := by decide +kernel
theorem jdl36 : jdecm [jt337_36] code = true := by decide +kernel
theorem jdl37 : jdecm [jt337_37] code = true := by decide +kernel
theorem jdl38 : jdecm [jt337_38] code = true := by decide +kernel
