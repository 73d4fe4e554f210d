/-! Every method is as the tables have it. -/
theorem zok_176 : (List.range 16).all (fun i => zokM (176 + i)) = true := by decide +kernel
