/-! ===== the tables hold what the class files say: decided by the kernel ===== -/
theorem jx_okl_13 : ((jx_c377.drop 1040).take 80).all (jx_chk code 13) = true := by decide +kernel
theorem jx_okl_14 : ((jx_c377.drop 1120).take 80).all (jx_chk code 13) = true := by decide +kernel
theorem jx_okl_15 : ((jx_c377.drop 1200).take 40).all (jx_chk code 13) = true := by decide +kernel
theorem jx_okl_16 : ((jx_c377.drop 1240).take 40).all (jx_chk code 13) = true := by decide +kernel
theorem jx_okl_17 : ((jx_c377.drop 1280).take 40).all (jx_chk code 13) = true := by decide +kernel
