theorem rq_3 : rq_R (re_go rG (rO0 rSC4) 100000 18 0 (lv_args 0 [.ref 0]) [] rHP) rR3 = true := by decide +kernel
