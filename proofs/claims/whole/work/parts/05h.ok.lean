/-! ===== the tables hold what the class files say: decided by the kernel ===== -/
theorem jx_okl_0 : ((jx_c377.drop 0).take 80).all (jx_chk code 13) = true := by decide +kernel
theorem jx_okl_1 : ((jx_c377.drop 80).take 80).all (jx_chk code 13) = true := by decide +kernel
theorem jx_okl_2 : ((jx_c377.drop 160).take 80).all (jx_chk code 13) = true := by decide +kernel
theorem jx_okl_3 : ((jx_c377.drop 240).take 80).all (jx_chk code 13) = true := by decide +kernel
theorem jx_okl_4 : ((jx_c377.drop 320).take 80).all (jx_chk code 13) = true := by decide +kernel
theorem jx_okl_5 : ((jx_c377.drop 400).take 80).all (jx_chk code 13) = true := by decide +kernel
theorem jx_okl_6 : ((jx_c377.drop 480).take 80).all (jx_chk code 13) = true := by decide +kernel
theorem jx_okl_7 : ((jx_c377.drop 560).take 80).all (jx_chk code 13) = true := by decide +kernel
