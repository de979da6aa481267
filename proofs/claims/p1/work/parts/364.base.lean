set_option maxRecDepth 1000000 in
theorem op7_v30 : (List.range 4).all (fun i => (0 + i == 0) || BQ 3 (0 + i)) = true := by decide +kernel
set_option maxRecDepth 1000000 in
theorem op7_v31 : (List.range 4).all (fun i => (4 + i == 0) || BQ 3 (4 + i)) = true := by decide +kernel
set_option maxRecDepth 1000000 in
theorem op7_v32 : (List.range 4).all (fun i => (8 + i == 0) || BQ 3 (8 + i)) = true := by decide +kernel
set_option maxRecDepth 1000000 in
theorem op7_v33 : (List.range 4).all (fun i => (12 + i == 0) || BQ 3 (12 + i)) = true := by decide +kernel
