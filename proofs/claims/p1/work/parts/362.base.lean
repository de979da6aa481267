set_option maxRecDepth 1000000 in
theorem op7_v10 : (List.range 4).all (fun i => (0 + i == 0) || BQ 1 (0 + i)) = true := by decide +kernel
set_option maxRecDepth 1000000 in
theorem op7_v11 : (List.range 4).all (fun i => (4 + i == 0) || BQ 1 (4 + i)) = true := by decide +kernel
set_option maxRecDepth 1000000 in
theorem op7_v12 : (List.range 4).all (fun i => (8 + i == 0) || BQ 1 (8 + i)) = true := by decide +kernel
set_option maxRecDepth 1000000 in
theorem op7_v13 : (List.range 4).all (fun i => (12 + i == 0) || BQ 1 (12 + i)) = true := by decide +kernel
