set_option maxRecDepth 100000 in
theorem sn_lc_600 : ((List.range 60).all (fun i => sn_cf 284 13 co_La_law (i + 600))) = true := by decide +kernel
set_option maxRecDepth 100000 in
theorem sn_lc_660 : ((List.range 60).all (fun i => sn_cf 284 13 co_La_law (i + 660))) = true := by decide +kernel
set_option maxRecDepth 100000 in
theorem sn_lc_720 : ((List.range 60).all (fun i => sn_cf 284 13 co_La_law (i + 720))) = true := by decide +kernel
set_option maxRecDepth 100000 in
theorem sn_lc_780 : ((List.range 60).all (fun i => sn_cf 284 13 co_La_law (i + 780))) = true := by decide +kernel
set_option maxRecDepth 100000 in
theorem sn_lc_840 : ((List.range 60).all (fun i => sn_cf 284 13 co_La_law (i + 840))) = true := by decide +kernel
set_option maxRecDepth 100000 in
theorem sn_lc_900 : ((List.range 60).all (fun i => sn_cf 284 13 co_La_law (i + 900))) = true := by decide +kernel
set_option maxRecDepth 100000 in
theorem sn_lc_960 : ((List.range 60).all (fun i => sn_cf 284 13 co_La_law (i + 960))) = true := by decide +kernel
set_option maxRecDepth 100000 in
theorem sn_lc_1020 : ((List.range 60).all (fun i => sn_cf 284 13 co_La_law (i + 1020))) = true := by decide +kernel
set_option maxRecDepth 100000 in
theorem sn_lc_1080 : ((List.range 60).all (fun i => sn_cf 284 13 co_La_law (i + 1080))) = true := by decide +kernel
set_option maxRecDepth 100000 in
theorem sn_lc_1140 : ((List.range 60).all (fun i => sn_cf 284 13 co_La_law (i + 1140))) = true := by decide +kernel
set_option maxRecDepth 100000 in
theorem sn_lc_1200 : ((List.range 60).all (fun i => sn_cf 284 13 co_La_law (i + 1200))) = true := by decide +kernel
