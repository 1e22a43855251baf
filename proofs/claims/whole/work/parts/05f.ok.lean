/-! ===== the tables hold what the class files say: decided by the kernel ===== -/
theorem jx_ok_40 : (List.range' 286 3).all jx_okz = true := by decide +kernel
theorem jx_ok_41 : (List.range' 289 7).all jx_okz = true := by decide +kernel
theorem jx_ok_42 : (List.range' 296 6).all jx_okz = true := by decide +kernel
theorem jx_ok_43 : (List.range' 302 4).all jx_okz = true := by decide +kernel
theorem jx_ok_44 : (List.range' 306 2).all jx_okz = true := by decide +kernel
theorem jx_ok_45 : (List.range' 308 6).all jx_okz = true := by decide +kernel
theorem jx_ok_46 : (List.range' 314 4).all jx_okz = true := by decide +kernel
theorem jx_ok_47 : (List.range' 318 4).all jx_okz = true := by decide +kernel
