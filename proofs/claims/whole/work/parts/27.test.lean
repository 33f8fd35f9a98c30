theorem rt1 : (re_go rG 100000 0 0 (lv_args 0 [.ref 0]) [] [(0, [.null, .int 0, .null, .int 0, .null, .null, .null, .null, .int 0, .null, .int 0])]).isSome = true := by decide +kernel
