/-! the rows of every method against its bytes: 210 to 264 -/
theorem am_row_210 : (List.range 10).all (fun y => am_mrchk (y + 210)) = true := by decide +kernel
theorem am_row_220 : (List.range 10).all (fun y => am_mrchk (y + 220)) = true := by decide +kernel
theorem am_row_230 : (List.range 10).all (fun y => am_mrchk (y + 230)) = true := by decide +kernel
theorem am_row_240 : (List.range 10).all (fun y => am_mrchk (y + 240)) = true := by decide +kernel
theorem am_row_250 : (List.range 10).all (fun y => am_mrchk (y + 250)) = true := by decide +kernel
theorem am_row_260 : (List.range 5).all (fun y => am_mrchk (y + 260)) = true := by decide +kernel
