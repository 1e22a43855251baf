/-! ===== the tables hold what the class files say: decided by the kernel ===== -/
theorem jx_ok_32 : (List.range' 258 8).all jx_okz = true := by decide +kernel
theorem jx_ok_33 : (List.range' 266 3).all jx_okz = true := by decide +kernel
theorem jx_ok_34 : (List.range' 269 4).all jx_okz = true := by decide +kernel
theorem jx_ok_35 : (List.range' 273 1).all jx_okz = true := by decide +kernel
theorem jx_ok_36 : (List.range' 274 4).all jx_okz = true := by decide +kernel
theorem jx_ok_37 : (List.range' 278 3).all jx_okz = true := by decide +kernel
theorem jx_ok_38 : (List.range' 281 3).all jx_okz = true := by decide +kernel
theorem jx_ok_39 : (List.range' 284 2).all jx_okz = true := by decide +kernel
