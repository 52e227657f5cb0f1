theorem sn_chu {f : Nat → Bool} {a n : Nat} (h : ((List.range n).all (fun i => f (i + a))) = true) {pc : Nat} (h1 : a ≤ pc) (h2 : pc < a + n) : f pc = true := by
  have h3 := List.all_eq_true.mp h (pc - a) (List.mem_range.mpr (by omega))
  have e : pc - a + a = pc := by omega
  rw [e] at h3
  exact h3
set_option maxRecDepth 100000 in
theorem sn_lc_0 : ((List.range 60).all (fun i => sn_cf 284 13 co_La_law (i + 0))) = true := by decide +kernel
set_option maxRecDepth 100000 in
theorem sn_lc_60 : ((List.range 60).all (fun i => sn_cf 284 13 co_La_law (i + 60))) = true := by decide +kernel
set_option maxRecDepth 100000 in
theorem sn_lc_120 : ((List.range 60).all (fun i => sn_cf 284 13 co_La_law (i + 120))) = true := by decide +kernel
set_option maxRecDepth 100000 in
theorem sn_lc_180 : ((List.range 60).all (fun i => sn_cf 284 13 co_La_law (i + 180))) = true := by decide +kernel
set_option maxRecDepth 100000 in
theorem sn_lc_240 : ((List.range 60).all (fun i => sn_cf 284 13 co_La_law (i + 240))) = true := by decide +kernel
set_option maxRecDepth 100000 in
theorem sn_lc_300 : ((List.range 60).all (fun i => sn_cf 284 13 co_La_law (i + 300))) = true := by decide +kernel
set_option maxRecDepth 100000 in
theorem sn_lc_360 : ((List.range 60).all (fun i => sn_cf 284 13 co_La_law (i + 360))) = true := by decide +kernel
set_option maxRecDepth 100000 in
theorem sn_lc_420 : ((List.range 60).all (fun i => sn_cf 284 13 co_La_law (i + 420))) = true := by decide +kernel
set_option maxRecDepth 100000 in
theorem sn_lc_480 : ((List.range 60).all (fun i => sn_cf 284 13 co_La_law (i + 480))) = true := by decide +kernel
set_option maxRecDepth 100000 in
theorem sn_lc_540 : ((List.range 60).all (fun i => sn_cf 284 13 co_La_law (i + 540))) = true := by decide +kernel
