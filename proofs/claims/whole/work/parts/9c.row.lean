/-! the rows of every method against its bytes: 140 to 209 -/
theorem am_row_140 : (List.range 10).all (fun y => am_mrchk (y + 140)) = true := by decide +kernel
theorem am_row_150 : (List.range 10).all (fun y => am_mrchk (y + 150)) = true := by decide +kernel
theorem am_row_160 : (List.range 10).all (fun y => am_mrchk (y + 160)) = true := by decide +kernel
theorem am_row_170 : (List.range 10).all (fun y => am_mrchk (y + 170)) = true := by decide +kernel
theorem am_row_180 : (List.range 10).all (fun y => am_mrchk (y + 180)) = true := by decide +kernel
theorem am_row_190 : (List.range 10).all (fun y => am_mrchk (y + 190)) = true := by decide +kernel
theorem am_row_200 : (List.range 10).all (fun y => am_mrchk (y + 200)) = true := by decide +kernel
