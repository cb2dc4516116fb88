/-! what the constructors left in rows -/
theorem am_z64a : (List.range 1120).all (fun k => ah_I am_h4 64 0 k == 0 && ah_I am_h4 68 0 k == 0) = true := by decide +kernel
theorem am_z64b : (List.range 1120).all (fun k => ah_I am_h4 64 0 (k + 1120) == 0 && ah_I am_h4 68 0 (k + 1120) == 0) = true := by decide +kernel
theorem am_z52 : (List.range 720).all (fun k => ah_I am_h4 52 0 k == 0 && ah_I am_h4 76 0 k == 0) = true := by decide +kernel
