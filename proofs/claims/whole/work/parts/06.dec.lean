theorem jdg0 : jdecg jq0 jbb0 = true := by decide +kernel
theorem jdg1 : jdecg jq1 jbb1 = true := by decide +kernel
theorem jdg2 : jdecg jq2 jbb2 = true := by decide +kernel
theorem jdg3 : jdecg jq3 jbb3 = true := by decide +kernel
theorem jdg4 : jdecg jq4 jbb4 = true := by decide +kernel
theorem jdg5 : jdecg jq5 jbb5 = true := by decide +kernel
theorem jdg6 : jdecg jq6 jbb6 = true := by decide +kernel
theorem jdg7 : jdecg jq7 jbb7 = true := by decide +kernel
theorem jdg8 : jdecg jq8 jbb8 = true := by decide +kernel
theorem jdg9 : jdecg jq9 jbb9 = true := by decide +kernel
theorem jdg10 : jdecg jq10 jbb10 = true := by decide +kernel
theorem jdg11 : jdecg jq11 jbb11 = true := by decide +kernel
theorem jdg12 : jdecg jq12 jbb12 = true := by decide +kernel
theorem jdg13 : jdecg jq13 jbb13 = true := by decide +kernel
theorem jdg14 : jdecg jq14 jbb14 = true := by decide +kernel
theorem jdg15 : jdecg jq15 jbb15 = true := by decide +kernel
theorem jdg16 : (((jq16.zip jbb16).take 17).all fun q => q.1.all fun g => g.all fun e => jdec q.2 e) = true := by decide +kernel
theorem jdl0 : (jt337_0.all fun e => jdec code e) = true := by decide +kernel
theorem jdl1 : (jt337_1.all fun e => jdec code e) = true := by decide +kernel
theorem jdl2 : (jt337_2.all fun e => jdec code e) = true := by decide +kernel
theorem jdl3 : (jt337_3.all fun e => jdec code e) = true := by decide +kernel
theorem jdl4 : (jt337_4.all fun e => jdec code e) = true := by decide +kernel
theorem jdl5 : (jt337_5.all fun e => jdec code e) = true := by decide +kernel
theorem jdl6 : (jt337_6.all fun e => jdec code e) = true := by decide +kernel
theorem jdl7 : (jt337_7.all fun e => jdec code e) = true := by decide +kernel
theorem jdl8 : (jt337_8.all fun e => jdec code e) = true := by decide +kernel
theorem jdl9 : (jt337_9.all fun e => jdec code e) = true := by decide +kernel
theorem jdl10 : (jt337_10.all fun e => jdec code e) = true := by decide +kernel
theorem jdl11 : (jt337_11.all fun e => jdec code e) = true := by decide +kernel
theorem jdl12 : (jt337_12.all fun e => jdec code e) = true := by decide +kernel
theorem jdl13 : (jt337_13.all fun e => jdec code e) = true := by decide +kernel
theorem jdl14 : (jt337_14.all fun e => jdec code e) = true := by decide +kernel
theorem jdl15 : (jt337_15.all fun e => jdec code e) = true := by decide +kernel
theorem jdl16 : (jt337_16.all fun e => jdec code e) = true := by decide +kernel
theorem jdl17 : (jt337_17.all fun e => jdec code e) = true := by decide +kernel
theorem jdl18 : (jt337_18.all fun e => jdec code e) = true := by decide +kernel
theorem jdl19 : (jt337_19.all fun e => jdec code e) = true := by decide +kernel
theorem jdl20 : (jt337_20.all fun e => jdec code e) = true := by decide +kernel
theorem jdl21 : (jt337_21.all fun e => jdec code e) = true := by decide +kernel
theorem jdl22 : (jt337_22.all fun e => jdec code e) = true := by decide +kernel
theorem jdl23 : (jt337_23.all fun e => jdec code e) = true := by decide +kernel
theorem jdl24 : (jt337_24.all fun e => jdec code e) = true := by decide +kernel
theorem jdl25 : (jt337_25.all fun e => jdec code e) = true := by decide +kernel
theorem jdl26 : (jt337_26.all fun e => jdec code e) = true := by decide +kernel
theorem jdl27 : (jt337_27.all fun e => jdec code e) = true := by decide +kernel
theorem jdl28 : (jt337_28.all fun e => jdec code e) = true := by decide +kernel
theorem jdl29 : (jt337_29.all fun e => jdec code e) = true := by decide +kernel
theorem jdl30 : (jt337_30.all fun e => jdec code e) = true := by decide +kernel
theorem jdl31 : (jt337_31.all fun e => jdec code e) = true := by decide +kernel
theorem jdl32 : (jt337_32.all fun e => jdec code e) = true := by decide +kernel
theorem jdl33 : (jt337_33.all fun e => jdec code e) = true := by decide +kernel
theorem jdl34 : (jt337_34.all fun e => jdec code e) = true := by decide +kernel
theorem jdl35 : (jt337_35.all fun e => jdec code e) = true := by decide +kernel
theorem jdl36 : (jt337_36.all fun e => jdec code e) = true := by decide +kernel
theorem jdl37 : (jt337_37.all fun e => jdec code e) = true := by decide +kernel
theorem jdl38 : (jt337_38.all fun e => jdec code e) = true := by decide +kernel
theorem jdl39 : (jt337_39.all fun e => jdec code e) = true := by decide +kernel
theorem jdl40 : (jt337_40.all fun e => jdec code e) = true := by decide +kernel
theorem jdl41 : (jt337_41.all fun e => jdec code e) = true := by decide +kernel
theorem jdl42 : (jt337_42.all fun e => jdec code e) = true := by decide +kernel
theorem jdl43 : (jt337_43.all fun e => jdec code e) = true := by decide +kernel
theorem jdl44 : (jt337_44.all fun e => jdec code e) = true := by decide +kernel
theorem jdl45 : (jt337_45.all fun e => jdec code e) = true := by decide +kernel
theorem jdl46 : (jt337_46.all fun e => jdec code e) = true := by decide +kernel
theorem jdl47 : (jt337_47.all fun e => jdec code e) = true := by decide +kernel
theorem jdl48 : (jt337_48.all fun e => jdec code e) = true := by decide +kernel
theorem jdl49 : (jt337_49.all fun e => jdec code e) = true := by decide +kernel
theorem jdl50 : (jt337_50.all fun e => jdec code e) = true := by decide +kernel
theorem jdl51 : (jt337_51.all fun e => jdec code e) = true := by decide +kernel
