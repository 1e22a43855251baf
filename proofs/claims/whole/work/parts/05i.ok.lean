/-! ===== the tables hold what the class files say: decided by the kernel ===== -/
theorem jx_okl_8 : ((jx_c377.drop 640).take 80).all (jx_chk code 13) = true := by decide +kernel
theorem jx_okl_9 : ((jx_c377.drop 720).take 80).all (jx_chk code 13) = true := by decide +kernel
theorem jx_okl_10 : ((jx_c377.drop 800).take 80).all (jx_chk code 13) = true := by decide +kernel
theorem jx_okl_11 : ((jx_c377.drop 880).take 80).all (jx_chk code 13) = true := by decide +kernel
theorem jx_okl_12 : ((jx_c377.drop 960).take 80).all (jx_chk code 13) = true := by decide +kernel
