/-! Scripts of fewer than 4 ints. -/
theorem rS0 : rFin (re_go rG (rO0 []) 100000 rLawY 0 (lv_args 0 [.retAddr 2]) [] re_h0) = true := by decide +kernel
theorem rS1 : rFin (re_go rG (rO0 [.float 0]) 100000 rLawY 0 (lv_args 0 [.retAddr 2]) [] re_h0) = true := by decide +kernel
theorem rS2 : rFin (re_go rG (rO0 [.float 0, .float 1]) 100000 rLawY 0 (lv_args 0 [.retAddr 2]) [] re_h0) = true := by decide +kernel
theorem rS3 : rFin (re_go rG (rO0 [.float 0, .float 1, .float 2]) 100000 rLawY 0 (lv_args 0 [.retAddr 2]) [] re_h0) = true := by decide +kernel
theorem rOps (op : Nat) (h : op < 32) : ∃ l, rAll op l = true := match op, h with
  | 0, _ => rC0
  | 1, _ => rC1
  | 2, _ => rC2
  | 3, _ => rC3
  | 4, _ => rC4
  | 5, _ => rC5
  | 6, _ => rC6
  | 7, _ => rC7
  | 8, _ => rC8
  | 9, _ => rC9
  | 10, _ => rC10
  | 11, _ => rC11
  | 12, _ => rC12
  | 13, _ => rC13
  | 14, _ => rC14
  | 15, _ => rC15
  | 16, _ => rC16
  | 17, _ => rC17
  | 18, _ => rC18
  | 19, _ => rC19
  | 20, _ => rC20
  | 21, _ => rC21
  | 22, _ => rC22
  | 23, _ => rC23
  | 24, _ => rC24
  | 25, _ => rC25
  | 26, _ => rC26
  | 27, _ => rC27
  | 28, _ => rC28
  | 29, _ => rC29
  | 30, _ => rC30
  | 31, _ => rC31
  | n + 32, h => absurd h (by omega)
