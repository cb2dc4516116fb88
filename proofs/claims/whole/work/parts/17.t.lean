theorem zz_1 : am_mrchk 20 = true := by decide +kernel
