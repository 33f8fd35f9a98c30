/-! Calls, kind by kind (written by a program). -/
theorem rC0 : ∃ l, rAll 0 l = true := ⟨[(((-2147483648), 2147483647), [((-2147483648), 2147483647)])], by decide +kernel⟩
theorem rC1_0 : rAq 1 (((-2147483648), (-1)), [((-2147483648), 2147483647)]) = true := by decide +kernel
theorem rC1_1 : rAq 1 ((0, 0), [((-2147483648), 2147483647)]) = true := by decide +kernel
theorem rC1_2 : rAq 1 ((1, 1), [((-2147483648), 2147483647)]) = true := by decide +kernel
theorem rC1_3 : rAq 1 ((2, 2), [((-2147483648), 2147483647)]) = true := by decide +kernel
theorem rC1_4 : rAq 1 ((3, 3), [((-2147483648), 2147483647)]) = true := by decide +kernel
theorem rC1_5 : rAq 1 ((4, 4), [((-2147483648), 2147483647)]) = true := by decide +kernel
theorem rC1_6 : rAq 1 ((5, 5), [((-2147483648), 2147483647)]) = true := by decide +kernel
theorem rC1_7 : rAq 1 ((6, 6), [((-2147483648), 2147483647)]) = true := by decide +kernel
theorem rC1_8 : rAq 1 ((7, 7), [((-2147483648), 2147483647)]) = true := by decide +kernel
theorem rC1_9 : rAq 1 ((8, 8), [((-2147483648), 2147483647)]) = true := by decide +kernel
theorem rC1_10 : rAq 1 ((9, 9), [((-2147483648), 2147483647)]) = true := by decide +kernel
theorem rC1_11 : rAq 1 ((10, 10), [((-2147483648), 2147483647)]) = true := by decide +kernel
theorem rC1_12 : rAq 1 ((11, 11), [((-2147483648), 2147483647)]) = true := by decide +kernel
theorem rC1_13 : rAq 1 ((12, 12), [((-2147483648), 2147483647)]) = true := by decide +kernel
theorem rC1_14 : rAq 1 ((13, 13), [((-2147483648), 2147483647)]) = true := by decide +kernel
theorem rC1_15 : rAq 1 ((14, 14), [((-2147483648), 2147483647)]) = true := by decide +kernel
theorem rC1_16 : rAq 1 ((15, 15), [((-2147483648), 2147483647)]) = true := by decide +kernel
theorem rC1_17 : rAq 1 ((16, 2147483647), [((-2147483648), 2147483647)]) = true := by decide +kernel
theorem rC1 : ∃ l, rAll 1 l = true := ⟨[(((-2147483648), (-1)), [((-2147483648), 2147483647)]), ((0, 0), [((-2147483648), 2147483647)]), ((1, 1), [((-2147483648), 2147483647)]), ((2, 2), [((-2147483648), 2147483647)]), ((3, 3), [((-2147483648), 2147483647)]), ((4, 4), [((-2147483648), 2147483647)]), ((5, 5), [((-2147483648), 2147483647)]), ((6, 6), [((-2147483648), 2147483647)]), ((7, 7), [((-2147483648), 2147483647)]), ((8, 8), [((-2147483648), 2147483647)]), ((9, 9), [((-2147483648), 2147483647)]), ((10, 10), [((-2147483648), 2147483647)]), ((11, 11), [((-2147483648), 2147483647)]), ((12, 12), [((-2147483648), 2147483647)]), ((13, 13), [((-2147483648), 2147483647)]), ((14, 14), [((-2147483648), 2147483647)]), ((15, 15), [((-2147483648), 2147483647)]), ((16, 2147483647), [((-2147483648), 2147483647)])], rAll_of (by decide +kernel) (List.forall_mem_cons.mpr ⟨rC1_0, List.forall_mem_cons.mpr ⟨rC1_1, List.forall_mem_cons.mpr ⟨rC1_2, List.forall_mem_cons.mpr ⟨rC1_3, List.forall_mem_cons.mpr ⟨rC1_4, List.forall_mem_cons.mpr ⟨rC1_5, List.forall_mem_cons.mpr ⟨rC1_6, List.forall_mem_cons.mpr ⟨rC1_7, List.forall_mem_cons.mpr ⟨rC1_8, List.forall_mem_cons.mpr ⟨rC1_9, List.forall_mem_cons.mpr ⟨rC1_10, List.forall_mem_cons.mpr ⟨rC1_11, List.forall_mem_cons.mpr ⟨rC1_12, List.forall_mem_cons.mpr ⟨rC1_13, List.forall_mem_cons.mpr ⟨rC1_14, List.forall_mem_cons.mpr ⟨rC1_15, List.forall_mem_cons.mpr ⟨rC1_16, List.forall_mem_cons.mpr ⟨rC1_17, fun _ h => absurd h List.not_mem_nil⟩⟩⟩⟩⟩⟩⟩⟩⟩⟩⟩⟩⟩⟩⟩⟩⟩⟩)⟩
theorem rC2_0 : rAq 2 (((-2147483648), (-1)), [((-2147483648), 2147483647)]) = true := by decide +kernel
theorem rC2_1 : rAq 2 ((0, 0), [((-2147483648), 2147483647)]) = true := by decide +kernel
theorem rC2_2 : rAq 2 ((1, 1), [((-2147483648), 2147483647)]) = true := by decide +kernel
theorem rC2_3 : rAq 2 ((2, 2), [((-2147483648), 2147483647)]) = true := by decide +kernel
theorem rC2_4 : rAq 2 ((3, 3), [((-2147483648), 2147483647)]) = true := by decide +kernel
theorem rC2_5 : rAq 2 ((4, 2147483647), [((-2147483648), 2147483647)]) = true := by decide +kernel
theorem rC2 : ∃ l, rAll 2 l = true := ⟨[(((-2147483648), (-1)), [((-2147483648), 2147483647)]), ((0, 0), [((-2147483648), 2147483647)]), ((1, 1), [((-2147483648), 2147483647)]), ((2, 2), [((-2147483648), 2147483647)]), ((3, 3), [((-2147483648), 2147483647)]), ((4, 2147483647), [((-2147483648), 2147483647)])], rAll_of (by decide +kernel) (List.forall_mem_cons.mpr ⟨rC2_0, List.forall_mem_cons.mpr ⟨rC2_1, List.forall_mem_cons.mpr ⟨rC2_2, List.forall_mem_cons.mpr ⟨rC2_3, List.forall_mem_cons.mpr ⟨rC2_4, List.forall_mem_cons.mpr ⟨rC2_5, fun _ h => absurd h List.not_mem_nil⟩⟩⟩⟩⟩⟩)⟩
theorem rC3 : ∃ l, rAll 3 l = true := ⟨[(((-2147483648), 2147483647), [((-2147483648), 2147483647)])], by decide +kernel⟩
theorem rC4 : ∃ l, rAll 4 l = true := ⟨[(((-2147483648), (-1)), [((-2147483648), 2147483647)]), ((0, 3), [((-2147483648), 2147483647)]), ((4, 2147483647), [((-2147483648), 2147483647)])], by decide +kernel⟩
theorem rC5 : ∃ l, rAll 5 l = true := ⟨[(((-2147483648), 2147483647), [((-2147483648), 2147483647)])], by decide +kernel⟩
theorem rC6 : ∃ l, rAll 6 l = true := ⟨[(((-2147483648), (-1)), [((-2147483648), 2147483647)]), ((0, 15), [((-2147483648), 2147483647)]), ((16, 2147483647), [((-2147483648), 2147483647)])], by decide +kernel⟩
theorem rC7 : ∃ l, rAll 7 l = true := ⟨[(((-2147483648), (-1)), [((-2147483648), 2147483647)]), ((0, 15), [((-2147483648), 2147483647)]), ((16, 2147483647), [((-2147483648), 2147483647)])], by decide +kernel⟩
theorem rC8 : ∃ l, rAll 8 l = true := ⟨[(((-2147483648), 2147483647), [((-2147483648), 2147483647)])], by decide +kernel⟩
