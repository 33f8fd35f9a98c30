theorem rt_law0 : ((re_go rG (rKk []) 100000 rLawY 0 (lv_args 0 [.retAddr 2]) [] []).map (fun r => (r.1, r.2.1))) = some (1, .int 1) := by decide +kernel
