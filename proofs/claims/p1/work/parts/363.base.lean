set_option maxRecDepth 1000000 in
theorem op7_v20 : (List.range 4).all (fun i => (0 + i == 0) || BQ 2 (0 + i)) = true := by decide +kernel
set_option maxRecDepth 1000000 in
theorem op7_v21 : (List.range 4).all (fun i => (4 + i == 0) || BQ 2 (4 + i)) = true := by decide +kernel
set_option maxRecDepth 1000000 in
theorem op7_v22 : (List.range 4).all (fun i => (8 + i == 0) || BQ 2 (8 + i)) = true := by decide +kernel
set_option maxRecDepth 1000000 in
theorem op7_v23 : (List.range 4).all (fun i => (12 + i == 0) || BQ 2 (12 + i)) = true := by decide +kernel
