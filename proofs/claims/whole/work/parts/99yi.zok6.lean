/-! Every method is as the tables have it. -/
theorem zok_208 : (List.range 16).all (fun i => zokM (208 + i)) = true := by decide +kernel
theorem zok_224 : (List.range 16).all (fun i => zokM (224 + i)) = true := by decide +kernel
theorem zok_240 : (List.range 11).all (fun i => zokM (240 + i)) = true := by decide +kernel
