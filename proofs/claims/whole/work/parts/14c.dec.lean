/-! ===== the tables are the statement's: the instructions ===== -/
def jdec (b : ByteArray) (e : Nat × (Instr × Nat)) : Bool := decide (decode b e.1 = .ok e.2) && ((Nat.beq (jlen e.2.1) 0 || Nat.beq e.2.2 (jlen e.2.1)) && jtk e.1 e.2.1)
def jdecm (p : List jPg) (b : ByteArray) : Bool := p.all fun g => g.all fun e => jdec b e
def jdecg : List (List jPg) → List ByteArray → Bool
  | [], [] => true
  | p :: ps, b :: bs => jdecm p b && jdecg ps bs
  | _, _ => false
theorem jdg0 : jdecg jq0 jbb0 = true := by decide +kernel
theorem jdg1 : jdecg jq1 jbb1 = true := by decide +kernel
theorem jdg2 : jdecg jq2 jbb2 = true := by decide +kernel
theorem jdg3 : jdecg jq3 jbb3 = true := by decide +kernel
theorem jdg4 : jdecg jq4 jbb4 = true := by decide +kernel
theorem jdg5 : jdecg jq5 jbb5 = true := by decide +kernel
theorem jdg6 : jdecg jq6 jbb6 = true := by decide +kernel
theorem jdg7 : jdecg jq7 jbb7 = true := by decide +kernel
theorem jdg8 : jdecg jq8 jbb8 = true := by decide +kernel
theorem jdg9 : jdecg jq9 jbb9 = true := by decide +kernel
theorem jdg10 : jdecg jq10 jbb10 = true := by decide +kernel
theorem jdg11 : jdecg jq11 jbb11 = true := by decide +kernel
theorem jdg12 : jdecg jq12 jbb12 = true := by decide +kernel
theorem jdg13 : jdecg jq13 jbb13 = true := by decide +kernel
theorem jdg14 : jdecg jq14 jbb14 = true := by decide +kernel
theorem jdg15 : jdecg jq15 jbb15 = true := by decide +kernel
theorem jdm320 : jdecm jt320 method_35_code = true := by decide +kernel
theorem jdm321 : jdecm jt321 method_36_code = true := by decide +kernel
theorem jdm322 : jdecm jt322 method_37_code = true := by decide +kernel
theorem jdm323 : jdecm jt323 method_38_code = true := by decide +kernel
theorem jdm324 : jdecm jt324 method_39_code = true := by decide +kernel
theorem jdm325 : jdecm jt325 method_40_code = true := by decide +kernel
theorem jdm326 : jdecm jt326 method_41_code = true := by decide +kernel
theorem jdm327 : jdecm jt327 method_42_code = true := by decide +kernel
theorem jdm328 : jdecm jt328 method_43_code = true := by decide +kernel
theorem jdm329 : jdecm jt329 method_44_code = true := by decide +kernel
theorem jdm330 : jdecm jt330 method_45_code = true := by decide +kernel
theorem jdm331 : jdecm jt331 method_46_code = true := by decide +kernel
theorem jdm332 : jdecm jt332 method_47_code = true := by decide +kernel
theorem jdm333 : jdecm jt333 method_48_code = true := by decide +kernel
theorem jdm334 : jdecm jt334 method_49_code = true := by decide +kernel
theorem jdm335 : jdecm jt335 method_50_code = true := by decide +kernel
theorem jdm336 : jdecm jt336 method_51_code = true := by decide +kernel
