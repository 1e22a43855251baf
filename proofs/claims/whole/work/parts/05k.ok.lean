/-! ===== the tables hold what the class files say: decided by the kernel ===== -/
theorem jx_okl_18 : ((jx_c377.drop 1320).take 40).all (jx_chk code 13) = true := by decide +kernel
theorem jx_okl_19 : ((jx_c377.drop 1360).take 40).all (jx_chk code 13) = true := by decide +kernel
theorem jx_okl_20 : ((jx_c377.drop 1400).take 40).all (jx_chk code 13) = true := by decide +kernel
theorem jx_okl_21 : ((jx_c377.drop 1440).take 40).all (jx_chk code 13) = true := by decide +kernel
theorem jx_okl_22 : ((jx_c377.drop 1480).take 40).all (jx_chk code 13) = true := by decide +kernel
