/-! Every method is as the tables have it. -/
theorem zok_64 : (List.range 16).all (fun i => zokM (64 + i)) = true := by decide +kernel
theorem zok_80 : (List.range 16).all (fun i => zokM (80 + i)) = true := by decide +kernel
theorem zok_96 : (List.range 16).all (fun i => zokM (96 + i)) = true := by decide +kernel
theorem zok_112 : (List.range 16).all (fun i => zokM (112 + i)) = true := by decide +kernel
