/-! ===== the tables hold what the class files say: decided by the kernel ===== -/
theorem jx_ok_24 : (List.range' 213 9).all jx_okz = true := by decide +kernel
theorem jx_ok_25 : (List.range' 222 2).all jx_okz = true := by decide +kernel
theorem jx_ok_26 : (List.range' 224 5).all jx_okz = true := by decide +kernel
theorem jx_ok_27 : (List.range' 229 6).all jx_okz = true := by decide +kernel
theorem jx_ok_28 : (List.range' 235 6).all jx_okz = true := by decide +kernel
theorem jx_ok_29 : (List.range' 241 6).all jx_okz = true := by decide +kernel
theorem jx_ok_30 : (List.range' 247 7).all jx_okz = true := by decide +kernel
theorem jx_ok_31 : (List.range' 254 4).all jx_okz = true := by decide +kernel
