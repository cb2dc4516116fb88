/-! the rows of every method against its bytes: 0 to 69 -/
theorem am_row_0 : (List.range 10).all (fun y => am_mrchk (y + 0)) = true := by decide +kernel
theorem am_row_10 : (List.range 10).all (fun y => am_mrchk (y + 10)) = true := by decide +kernel
theorem am_row_20 : (List.range 10).all (fun y => am_mrchk (y + 20)) = true := by decide +kernel
theorem am_row_30 : (List.range 10).all (fun y => am_mrchk (y + 30)) = true := by decide +kernel
theorem am_row_40 : (List.range 10).all (fun y => am_mrchk (y + 40)) = true := by decide +kernel
theorem am_row_50 : (List.range 10).all (fun y => am_mrchk (y + 50)) = true := by decide +kernel
theorem am_row_60 : (List.range 10).all (fun y => am_mrchk (y + 60)) = true := by decide +kernel
