/-! ===== the tables hold what the class files say: decided by the kernel ===== -/
theorem jx_ok_8 : (List.range' 67 14).all jx_okz = true := by decide +kernel
theorem jx_ok_9 : (List.range' 81 7).all jx_okz = true := by decide +kernel
theorem jx_ok_10 : (List.range' 88 7).all jx_okz = true := by decide +kernel
theorem jx_ok_11 : (List.range' 95 11).all jx_okz = true := by decide +kernel
theorem jx_ok_12 : (List.range' 106 13).all jx_okz = true := by decide +kernel
theorem jx_ok_13 : (List.range' 119 9).all jx_okz = true := by decide +kernel
theorem jx_ok_14 : (List.range' 128 6).all jx_okz = true := by decide +kernel
theorem jx_ok_15 : (List.range' 134 8).all jx_okz = true := by decide +kernel
