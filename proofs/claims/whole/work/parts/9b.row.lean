/-! the rows of every method against its bytes: 70 to 139 -/
theorem am_row_70 : (List.range 10).all (fun y => am_mrchk (y + 70)) = true := by decide +kernel
theorem am_row_80 : (List.range 10).all (fun y => am_mrchk (y + 80)) = true := by decide +kernel
theorem am_row_90 : (List.range 10).all (fun y => am_mrchk (y + 90)) = true := by decide +kernel
theorem am_row_100 : (List.range 10).all (fun y => am_mrchk (y + 100)) = true := by decide +kernel
theorem am_row_110 : (List.range 10).all (fun y => am_mrchk (y + 110)) = true := by decide +kernel
theorem am_row_120 : (List.range 10).all (fun y => am_mrchk (y + 120)) = true := by decide +kernel
theorem am_row_130 : (List.range 10).all (fun y => am_mrchk (y + 130)) = true := by decide +kernel
