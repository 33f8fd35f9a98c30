/-! Calls, kind by kind (written by a program). -/
theorem rC10_0 : rAq 10 (((-2147483648), (-1)), [((-2147483648), 2147483647)]) = true := by decide +kernel
theorem rC10_1 : rAq 10 ((0, 0), [((-2147483648), 2147483647)]) = true := by decide +kernel
theorem rC10_2 : rAq 10 ((1, 1), [((-2147483648), 2147483647)]) = true := by decide +kernel
theorem rC10_3 : rAq 10 ((2, 2), [((-2147483648), 2147483647)]) = true := by decide +kernel
theorem rC10_4 : rAq 10 ((3, 3), [((-2147483648), 2147483647)]) = true := by decide +kernel
theorem rC10_5 : rAq 10 ((4, 4), [((-2147483648), 2147483647)]) = true := by decide +kernel
theorem rC10_6 : rAq 10 ((5, 5), [((-2147483648), 2147483647)]) = true := by decide +kernel
theorem rC10_7 : rAq 10 ((6, 6), [((-2147483648), 2147483647)]) = true := by decide +kernel
theorem rC10_8 : rAq 10 ((7, 7), [((-2147483648), 2147483647)]) = true := by decide +kernel
theorem rC10_9 : rAq 10 ((8, 8), [((-2147483648), 2147483647)]) = true := by decide +kernel
theorem rC10_10 : rAq 10 ((9, 9), [((-2147483648), 2147483647)]) = true := by decide +kernel
theorem rC10_11 : rAq 10 ((10, 10), [((-2147483648), 2147483647)]) = true := by decide +kernel
theorem rC10_12 : rAq 10 ((11, 11), [((-2147483648), 2147483647)]) = true := by decide +kernel
theorem rC10_13 : rAq 10 ((12, 2147483647), [((-2147483648), 2147483647)]) = true := by decide +kernel
theorem rC10 : ∃ l, rAll 10 l = true := ⟨[(((-2147483648), (-1)), [((-2147483648), 2147483647)]), ((0, 0), [((-2147483648), 2147483647)]), ((1, 1), [((-2147483648), 2147483647)]), ((2, 2), [((-2147483648), 2147483647)]), ((3, 3), [((-2147483648), 2147483647)]), ((4, 4), [((-2147483648), 2147483647)]), ((5, 5), [((-2147483648), 2147483647)]), ((6, 6), [((-2147483648), 2147483647)]), ((7, 7), [((-2147483648), 2147483647)]), ((8, 8), [((-2147483648), 2147483647)]), ((9, 9), [((-2147483648), 2147483647)]), ((10, 10), [((-2147483648), 2147483647)]), ((11, 11), [((-2147483648), 2147483647)]), ((12, 2147483647), [((-2147483648), 2147483647)])], rAll_of (by decide +kernel) (List.forall_mem_cons.mpr ⟨rC10_0, List.forall_mem_cons.mpr ⟨rC10_1, List.forall_mem_cons.mpr ⟨rC10_2, List.forall_mem_cons.mpr ⟨rC10_3, List.forall_mem_cons.mpr ⟨rC10_4, List.forall_mem_cons.mpr ⟨rC10_5, List.forall_mem_cons.mpr ⟨rC10_6, List.forall_mem_cons.mpr ⟨rC10_7, List.forall_mem_cons.mpr ⟨rC10_8, List.forall_mem_cons.mpr ⟨rC10_9, List.forall_mem_cons.mpr ⟨rC10_10, List.forall_mem_cons.mpr ⟨rC10_11, List.forall_mem_cons.mpr ⟨rC10_12, List.forall_mem_cons.mpr ⟨rC10_13, fun _ h => absurd h List.not_mem_nil⟩⟩⟩⟩⟩⟩⟩⟩⟩⟩⟩⟩⟩⟩)⟩
theorem rC11_0 : rAq 11 (((-2147483648), (-1)), [((-2147483648), 2147483647)]) = true := by decide +kernel
theorem rC11_1 : rAq 11 ((0, 0), [((-2147483648), 2147483647)]) = true := by decide +kernel
theorem rC11_2 : rAq 11 ((1, 1), [((-2147483648), 2147483647)]) = true := by decide +kernel
theorem rC11_3 : rAq 11 ((2, 2), [((-2147483648), 2147483647)]) = true := by decide +kernel
theorem rC11_4 : rAq 11 ((3, 3), [((-2147483648), 2147483647)]) = true := by decide +kernel
theorem rC11_5 : rAq 11 ((4, 4), [((-2147483648), 2147483647)]) = true := by decide +kernel
theorem rC11_6 : rAq 11 ((5, 5), [((-2147483648), 2147483647)]) = true := by decide +kernel
theorem rC11_7 : rAq 11 ((6, 6), [((-2147483648), 2147483647)]) = true := by decide +kernel
theorem rC11_8 : rAq 11 ((7, 7), [((-2147483648), 2147483647)]) = true := by decide +kernel
theorem rC11_9 : rAq 11 ((8, 8), [((-2147483648), 2147483647)]) = true := by decide +kernel
theorem rC11_10 : rAq 11 ((9, 9), [((-2147483648), 2147483647)]) = true := by decide +kernel
theorem rC11_11 : rAq 11 ((10, 10), [((-2147483648), 2147483647)]) = true := by decide +kernel
theorem rC11_12 : rAq 11 ((11, 11), [((-2147483648), 2147483647)]) = true := by decide +kernel
theorem rC11_13 : rAq 11 ((12, 2147483647), [((-2147483648), 2147483647)]) = true := by decide +kernel
theorem rC11 : ∃ l, rAll 11 l = true := ⟨[(((-2147483648), (-1)), [((-2147483648), 2147483647)]), ((0, 0), [((-2147483648), 2147483647)]), ((1, 1), [((-2147483648), 2147483647)]), ((2, 2), [((-2147483648), 2147483647)]), ((3, 3), [((-2147483648), 2147483647)]), ((4, 4), [((-2147483648), 2147483647)]), ((5, 5), [((-2147483648), 2147483647)]), ((6, 6), [((-2147483648), 2147483647)]), ((7, 7), [((-2147483648), 2147483647)]), ((8, 8), [((-2147483648), 2147483647)]), ((9, 9), [((-2147483648), 2147483647)]), ((10, 10), [((-2147483648), 2147483647)]), ((11, 11), [((-2147483648), 2147483647)]), ((12, 2147483647), [((-2147483648), 2147483647)])], rAll_of (by decide +kernel) (List.forall_mem_cons.mpr ⟨rC11_0, List.forall_mem_cons.mpr ⟨rC11_1, List.forall_mem_cons.mpr ⟨rC11_2, List.forall_mem_cons.mpr ⟨rC11_3, List.forall_mem_cons.mpr ⟨rC11_4, List.forall_mem_cons.mpr ⟨rC11_5, List.forall_mem_cons.mpr ⟨rC11_6, List.forall_mem_cons.mpr ⟨rC11_7, List.forall_mem_cons.mpr ⟨rC11_8, List.forall_mem_cons.mpr ⟨rC11_9, List.forall_mem_cons.mpr ⟨rC11_10, List.forall_mem_cons.mpr ⟨rC11_11, List.forall_mem_cons.mpr ⟨rC11_12, List.forall_mem_cons.mpr ⟨rC11_13, fun _ h => absurd h List.not_mem_nil⟩⟩⟩⟩⟩⟩⟩⟩⟩⟩⟩⟩⟩⟩)⟩
theorem rC12_0 : rAq 12 (((-2147483648), (-1)), [((-2147483648), 2147483647)]) = true := by decide +kernel
theorem rC12_1 : rAq 12 ((0, 0), [((-2147483648), 2147483647)]) = true := by decide +kernel
theorem rC12_2 : rAq 12 ((1, 1), [((-2147483648), 2147483647)]) = true := by decide +kernel
theorem rC12_3 : rAq 12 ((2, 2), [((-2147483648), 2147483647)]) = true := by decide +kernel
theorem rC12_4 : rAq 12 ((3, 3), [((-2147483648), 2147483647)]) = true := by decide +kernel
theorem rC12_5 : rAq 12 ((4, 4), [((-2147483648), 2147483647)]) = true := by decide +kernel
theorem rC12_6 : rAq 12 ((5, 5), [((-2147483648), 2147483647)]) = true := by decide +kernel
theorem rC12_7 : rAq 12 ((6, 6), [((-2147483648), 2147483647)]) = true := by decide +kernel
theorem rC12_8 : rAq 12 ((7, 7), [((-2147483648), 2147483647)]) = true := by decide +kernel
theorem rC12_9 : rAq 12 ((8, 8), [((-2147483648), 2147483647)]) = true := by decide +kernel
theorem rC12_10 : rAq 12 ((9, 9), [((-2147483648), 2147483647)]) = true := by decide +kernel
theorem rC12_11 : rAq 12 ((10, 10), [((-2147483648), 2147483647)]) = true := by decide +kernel
theorem rC12_12 : rAq 12 ((11, 11), [((-2147483648), 2147483647)]) = true := by decide +kernel
theorem rC12_13 : rAq 12 ((12, 2147483647), [((-2147483648), 2147483647)]) = true := by decide +kernel
theorem rC12 : ∃ l, rAll 12 l = true := ⟨[(((-2147483648), (-1)), [((-2147483648), 2147483647)]), ((0, 0), [((-2147483648), 2147483647)]), ((1, 1), [((-2147483648), 2147483647)]), ((2, 2), [((-2147483648), 2147483647)]), ((3, 3), [((-2147483648), 2147483647)]), ((4, 4), [((-2147483648), 2147483647)]), ((5, 5), [((-2147483648), 2147483647)]), ((6, 6), [((-2147483648), 2147483647)]), ((7, 7), [((-2147483648), 2147483647)]), ((8, 8), [((-2147483648), 2147483647)]), ((9, 9), [((-2147483648), 2147483647)]), ((10, 10), [((-2147483648), 2147483647)]), ((11, 11), [((-2147483648), 2147483647)]), ((12, 2147483647), [((-2147483648), 2147483647)])], rAll_of (by decide +kernel) (List.forall_mem_cons.mpr ⟨rC12_0, List.forall_mem_cons.mpr ⟨rC12_1, List.forall_mem_cons.mpr ⟨rC12_2, List.forall_mem_cons.mpr ⟨rC12_3, List.forall_mem_cons.mpr ⟨rC12_4, List.forall_mem_cons.mpr ⟨rC12_5, List.forall_mem_cons.mpr ⟨rC12_6, List.forall_mem_cons.mpr ⟨rC12_7, List.forall_mem_cons.mpr ⟨rC12_8, List.forall_mem_cons.mpr ⟨rC12_9, List.forall_mem_cons.mpr ⟨rC12_10, List.forall_mem_cons.mpr ⟨rC12_11, List.forall_mem_cons.mpr ⟨rC12_12, List.forall_mem_cons.mpr ⟨rC12_13, fun _ h => absurd h List.not_mem_nil⟩⟩⟩⟩⟩⟩⟩⟩⟩⟩⟩⟩⟩⟩)⟩
