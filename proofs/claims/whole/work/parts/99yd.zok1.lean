/-! Every method is as the tables have it. -/
theorem zok_0 : (List.range 16).all (fun i => zokM (0 + i)) = true := by decide +kernel
theorem zok_16 : (List.range 16).all (fun i => zokM (16 + i)) = true := by decide +kernel
theorem zok_32 : (List.range 16).all (fun i => zokM (32 + i)) = true := by decide +kernel
theorem zok_48 : (List.range 16).all (fun i => zokM (48 + i)) = true := by decide +kernel
