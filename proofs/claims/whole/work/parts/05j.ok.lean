/-! ===== the tables hold what the class files say: decided by the kernel ===== -/
theorem jx_okl_16 : ((jx_c377.drop 1280).take 80).all (jx_chk code 13) = true := by decide +kernel
theorem jx_okl_17 : ((jx_c377.drop 1360).take 80).all (jx_chk code 13) = true := by decide +kernel
theorem jx_okl_18 : ((jx_c377.drop 1440).take 80).all (jx_chk code 13) = true := by decide +kernel
theorem jx_okl_19 : ((jx_c377.drop 1520).take 80).all (jx_chk code 13) = true := by decide +kernel
theorem jx_okl_20 : ((jx_c377.drop 1600).take 80).all (jx_chk code 13) = true := by decide +kernel
theorem jx_okl_21 : ((jx_c377.drop 1680).take 80).all (jx_chk code 13) = true := by decide +kernel
theorem jx_okl_22 : ((jx_c377.drop 1760).take 80).all (jx_chk code 13) = true := by decide +kernel
theorem jx_okl_23 : ((jx_c377.drop 1840).take 80).all (jx_chk code 13) = true := by decide +kernel
