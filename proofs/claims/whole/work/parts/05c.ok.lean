/-! ===== the tables hold what the class files say: decided by the kernel ===== -/
theorem jx_ok_16 : (List.range' 142 14).all jx_okz = true := by decide +kernel
theorem jx_ok_17 : (List.range' 156 8).all jx_okz = true := by decide +kernel
theorem jx_ok_18 : (List.range' 164 5).all jx_okz = true := by decide +kernel
theorem jx_ok_19 : (List.range' 169 8).all jx_okz = true := by decide +kernel
theorem jx_ok_20 : (List.range' 177 7).all jx_okz = true := by decide +kernel
theorem jx_ok_21 : (List.range' 184 14).all jx_okz = true := by decide +kernel
theorem jx_ok_22 : (List.range' 198 4).all jx_okz = true := by decide +kernel
theorem jx_ok_23 : (List.range' 202 11).all jx_okz = true := by decide +kernel
