/-! ===== the tables hold what the class files say: decided by the kernel ===== -/
theorem jx_ok_48 : (List.range' 322 5).all jx_okz = true := by decide +kernel
theorem jx_ok_49 : (List.range' 327 21).all jx_okz = true := by decide +kernel
theorem jx_ok_50 : (List.range' 348 19).all jx_okz = true := by decide +kernel
theorem jx_ok_51 : (List.range' 367 10).all jx_okz = true := by decide +kernel
