/-! ===== the tables hold what the class files say: decided by the kernel ===== -/
theorem jx_okl_28 : ((jx_c377.drop 1720).take 40).all (jx_chk code 13) = true := by decide +kernel
theorem jx_okl_29 : ((jx_c377.drop 1760).take 40).all (jx_chk code 13) = true := by decide +kernel
theorem jx_okl_30 : ((jx_c377.drop 1800).take 40).all (jx_chk code 13) = true := by decide +kernel
theorem jx_okl_31 : ((jx_c377.drop 1840).take 40).all (jx_chk code 13) = true := by decide +kernel
theorem jx_okl_32 : ((jx_c377.drop 1880).take 40).all (jx_chk code 13) = true := by decide +kernel
