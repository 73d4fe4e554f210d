/-! Every method is as the tables have it. -/
theorem zok_192 : (List.range 2).all (fun i => zokM (192 + i)) = true := by decide +kernel
theorem zok_194 : (List.range 2).all (fun i => zokM (194 + i)) = true := by decide +kernel
theorem zok_196 : (List.range 2).all (fun i => zokM (196 + i)) = true := by decide +kernel
theorem zok_198 : (List.range 2).all (fun i => zokM (198 + i)) = true := by decide +kernel
theorem zok_200 : (List.range 2).all (fun i => zokM (200 + i)) = true := by decide +kernel
theorem zok_202 : (List.range 2).all (fun i => zokM (202 + i)) = true := by decide +kernel
theorem zok_204 : (List.range 2).all (fun i => zokM (204 + i)) = true := by decide +kernel
theorem zok_206 : (List.range 2).all (fun i => zokM (206 + i)) = true := by decide +kernel
