theorem rq_4 : rq_R (re_go rG (rO0 rSC4) 100000 721 0 (lv_args 0 [.ref 301]) [] rH4) rR4 = true := by decide +kernel
