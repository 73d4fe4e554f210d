/-! Every method is as the tables have it. -/
theorem zok_128 : (List.range 16).all (fun i => zokM (128 + i)) = true := by decide +kernel
theorem zok_144 : (List.range 16).all (fun i => zokM (144 + i)) = true := by decide +kernel
theorem zok_160 : (List.range 16).all (fun i => zokM (160 + i)) = true := by decide +kernel
