/-! ===== the tables hold what the class files say: decided by the kernel ===== -/
theorem jx_okl_23 : ((jx_c377.drop 1520).take 40).all (jx_chk code 13) = true := by decide +kernel
theorem jx_okl_24 : ((jx_c377.drop 1560).take 40).all (jx_chk code 13) = true := by decide +kernel
theorem jx_okl_25 : ((jx_c377.drop 1600).take 40).all (jx_chk code 13) = true := by decide +kernel
theorem jx_okl_26 : ((jx_c377.drop 1640).take 40).all (jx_chk code 13) = true := by decide +kernel
theorem jx_okl_27 : ((jx_c377.drop 1680).take 40).all (jx_chk code 13) = true := by decide +kernel
