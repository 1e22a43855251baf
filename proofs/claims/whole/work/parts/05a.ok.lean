/-! ===== the tables hold what the class files say: decided by the kernel ===== -/
theorem jx_ok_0 : (List.range' 0 8).all jx_okz = true := by decide +kernel
theorem jx_ok_1 : (List.range' 8 11).all jx_okz = true := by decide +kernel
theorem jx_ok_2 : (List.range' 19 7).all jx_okz = true := by decide +kernel
theorem jx_ok_3 : (List.range' 26 9).all jx_okz = true := by decide +kernel
theorem jx_ok_4 : (List.range' 35 14).all jx_okz = true := by decide +kernel
theorem jx_ok_5 : (List.range' 49 7).all jx_okz = true := by decide +kernel
theorem jx_ok_6 : (List.range' 56 5).all jx_okz = true := by decide +kernel
theorem jx_ok_7 : (List.range' 61 6).all jx_okz = true := by decide +kernel
