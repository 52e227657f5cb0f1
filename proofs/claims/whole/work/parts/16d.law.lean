set_option maxRecDepth 100000 in
theorem sn_lc_1260 : ((List.range 60).all (fun i => sn_cf 284 13 co_La_law (i + 1260))) = true := by decide +kernel
set_option maxRecDepth 100000 in
theorem sn_lc_1320 : ((List.range 60).all (fun i => sn_cf 284 13 co_La_law (i + 1320))) = true := by decide +kernel
set_option maxRecDepth 100000 in
theorem sn_lc_1380 : ((List.range 60).all (fun i => sn_cf 284 13 co_La_law (i + 1380))) = true := by decide +kernel
set_option maxRecDepth 100000 in
theorem sn_lc_1440 : ((List.range 60).all (fun i => sn_cf 284 13 co_La_law (i + 1440))) = true := by decide +kernel
set_option maxRecDepth 100000 in
theorem sn_lc_1500 : ((List.range 60).all (fun i => sn_cf 284 13 co_La_law (i + 1500))) = true := by decide +kernel
set_option maxRecDepth 100000 in
theorem sn_lc_1560 : ((List.range 60).all (fun i => sn_cf 284 13 co_La_law (i + 1560))) = true := by decide +kernel
set_option maxRecDepth 100000 in
theorem sn_lc_1620 : ((List.range 60).all (fun i => sn_cf 284 13 co_La_law (i + 1620))) = true := by decide +kernel
set_option maxRecDepth 100000 in
theorem sn_lc_1680 : ((List.range 60).all (fun i => sn_cf 284 13 co_La_law (i + 1680))) = true := by decide +kernel
set_option maxRecDepth 100000 in
theorem sn_lc_1740 : ((List.range 60).all (fun i => sn_cf 284 13 co_La_law (i + 1740))) = true := by decide +kernel
set_option maxRecDepth 100000 in
theorem sn_lc_1800 : ((List.range 60).all (fun i => sn_cf 284 13 co_La_law (i + 1800))) = true := by decide +kernel
set_option maxRecDepth 100000 in
theorem sn_lc_1860 : ((List.range 50).all (fun i => sn_cf 284 13 co_La_law (i + 1860))) = true := by decide +kernel
