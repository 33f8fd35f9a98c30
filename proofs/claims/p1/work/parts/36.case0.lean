/-! Calls, kind by kind (written by a program). -/
theorem rC9 : ∃ l, rAll 9 l = true := ⟨[(((-2147483648), 2147483647), [((-2147483648), 2147483647)])], by decide +kernel⟩
