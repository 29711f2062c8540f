/-! ===== the law's instructions 3 ===== -/
theorem jdl39 : jdecm [jt337_39] code = true := by decide +kernel
theorem jdl40 : jdecm [jt337_40] code = true := by decide +kernel
theorem jdl41 : jdecm [jt337_41] code = true := by decide +kernel
theorem jdl42 : jdecm [jt337_42] code = true := by decide +kernel
theorem jdl43 : jdecm [jt337_43] code = true := by decide +kernel
theorem jdl44 : jdecm [jt337_44] code = true := by decide +kernel
theorem jdl45 : jdecm [jt337_45] code = true := by decide +kernel
theorem jdl46 : jdecm [jt337_46] code = true := by decide +kernel
theorem jdl47 : jdecm [jt337_47] code = true := by decide +kernel
theorem jdl48 : jdecm [jt337_48] code = true := by decide +kernel
theorem jdl49 : jdecm [jt337_49] code = true := by decide +kernel
theorem jdl50 : jdecm [jt337_50] code = true := by decide +kernel
theorem jdl51 : jdecm [jt337_51] code = true := by decide +kernel
