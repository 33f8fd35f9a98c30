/-! Calls, kind by kind (written by a program). -/
theorem rC14_0 : rAq 14 (((-2147483648), (-1)), [((-2147483648), 2147483647)]) = true := by decide +kernel
theorem rC14_1 : rAq 14 ((0, 0), [((-2147483648), 2147483647)]) = true := by decide +kernel
theorem rC14_2 : rAq 14 ((1, 1), [((-2147483648), 2147483647)]) = true := by decide +kernel
theorem rC14_3 : rAq 14 ((2, 2), [((-2147483648), 2147483647)]) = true := by decide +kernel
theorem rC14_4 : rAq 14 ((3, 3), [((-2147483648), 2147483647)]) = true := by decide +kernel
theorem rC14_5 : rAq 14 ((4, 2147483647), [((-2147483648), 2147483647)]) = true := by decide +kernel
theorem rC14 : ∃ l, rAll 14 l = true := ⟨[(((-2147483648), (-1)), [((-2147483648), 2147483647)]), ((0, 0), [((-2147483648), 2147483647)]), ((1, 1), [((-2147483648), 2147483647)]), ((2, 2), [((-2147483648), 2147483647)]), ((3, 3), [((-2147483648), 2147483647)]), ((4, 2147483647), [((-2147483648), 2147483647)])], rAll_of (by decide +kernel) (List.forall_mem_cons.mpr ⟨rC14_0, List.forall_mem_cons.mpr ⟨rC14_1, List.forall_mem_cons.mpr ⟨rC14_2, List.forall_mem_cons.mpr ⟨rC14_3, List.forall_mem_cons.mpr ⟨rC14_4, List.forall_mem_cons.mpr ⟨rC14_5, fun _ h => absurd h List.not_mem_nil⟩⟩⟩⟩⟩⟩)⟩
theorem rC15 : ∃ l, rAll 15 l = true := ⟨[(((-2147483648), 2147483647), [((-2147483648), 2147483647)])], by decide +kernel⟩
theorem rC16_0 : rAq 16 (((-2147483648), (-1)), [((-2147483648), 2147483647)]) = true := by decide +kernel
theorem rC16_1 : rAq 16 ((0, 0), [((-2147483648), 2147483647)]) = true := by decide +kernel
theorem rC16_2 : rAq 16 ((1, 1), [((-2147483648), 2147483647)]) = true := by decide +kernel
theorem rC16_3 : rAq 16 ((2, 2), [((-2147483648), 2147483647)]) = true := by decide +kernel
theorem rC16_4 : rAq 16 ((3, 2147483647), [((-2147483648), 2147483647)]) = true := by decide +kernel
theorem rC16 : ∃ l, rAll 16 l = true := ⟨[(((-2147483648), (-1)), [((-2147483648), 2147483647)]), ((0, 0), [((-2147483648), 2147483647)]), ((1, 1), [((-2147483648), 2147483647)]), ((2, 2), [((-2147483648), 2147483647)]), ((3, 2147483647), [((-2147483648), 2147483647)])], rAll_of (by decide +kernel) (List.forall_mem_cons.mpr ⟨rC16_0, List.forall_mem_cons.mpr ⟨rC16_1, List.forall_mem_cons.mpr ⟨rC16_2, List.forall_mem_cons.mpr ⟨rC16_3, List.forall_mem_cons.mpr ⟨rC16_4, fun _ h => absurd h List.not_mem_nil⟩⟩⟩⟩⟩)⟩
theorem rC17_0 : rAq 17 (((-2147483648), (-1)), [((-2147483648), 2147483647)]) = true := by decide +kernel
theorem rC17_1 : rAq 17 ((0, 0), [((-2147483648), 2147483647)]) = true := by decide +kernel
theorem rC17_2 : rAq 17 ((1, 1), [((-2147483648), 2147483647)]) = true := by decide +kernel
theorem rC17_3 : rAq 17 ((2, 2), [((-2147483648), 2147483647)]) = true := by decide +kernel
theorem rC17_4 : rAq 17 ((3, 3), [((-2147483648), 2147483647)]) = true := by decide +kernel
theorem rC17_5 : rAq 17 ((4, 4), [((-2147483648), 2147483647)]) = true := by decide +kernel
theorem rC17_6 : rAq 17 ((5, 5), [((-2147483648), 2147483647)]) = true := by decide +kernel
theorem rC17_7 : rAq 17 ((6, 6), [((-2147483648), 2147483647)]) = true := by decide +kernel
theorem rC17_8 : rAq 17 ((7, 7), [((-2147483648), 2147483647)]) = true := by decide +kernel
theorem rC17_9 : rAq 17 ((8, 8), [((-2147483648), 2147483647)]) = true := by decide +kernel
theorem rC17_10 : rAq 17 ((9, 9), [((-2147483648), 2147483647)]) = true := by decide +kernel
theorem rC17_11 : rAq 17 ((10, 10), [((-2147483648), 2147483647)]) = true := by decide +kernel
theorem rC17_12 : rAq 17 ((11, 11), [((-2147483648), 2147483647)]) = true := by decide +kernel
theorem rC17_13 : rAq 17 ((12, 2147483647), [((-2147483648), 2147483647)]) = true := by decide +kernel
theorem rC17 : ∃ l, rAll 17 l = true := ⟨[(((-2147483648), (-1)), [((-2147483648), 2147483647)]), ((0, 0), [((-2147483648), 2147483647)]), ((1, 1), [((-2147483648), 2147483647)]), ((2, 2), [((-2147483648), 2147483647)]), ((3, 3), [((-2147483648), 2147483647)]), ((4, 4), [((-2147483648), 2147483647)]), ((5, 5), [((-2147483648), 2147483647)]), ((6, 6), [((-2147483648), 2147483647)]), ((7, 7), [((-2147483648), 2147483647)]), ((8, 8), [((-2147483648), 2147483647)]), ((9, 9), [((-2147483648), 2147483647)]), ((10, 10), [((-2147483648), 2147483647)]), ((11, 11), [((-2147483648), 2147483647)]), ((12, 2147483647), [((-2147483648), 2147483647)])], rAll_of (by decide +kernel) (List.forall_mem_cons.mpr ⟨rC17_0, List.forall_mem_cons.mpr ⟨rC17_1, List.forall_mem_cons.mpr ⟨rC17_2, List.forall_mem_cons.mpr ⟨rC17_3, List.forall_mem_cons.mpr ⟨rC17_4, List.forall_mem_cons.mpr ⟨rC17_5, List.forall_mem_cons.mpr ⟨rC17_6, List.forall_mem_cons.mpr ⟨rC17_7, List.forall_mem_cons.mpr ⟨rC17_8, List.forall_mem_cons.mpr ⟨rC17_9, List.forall_mem_cons.mpr ⟨rC17_10, List.forall_mem_cons.mpr ⟨rC17_11, List.forall_mem_cons.mpr ⟨rC17_12, List.forall_mem_cons.mpr ⟨rC17_13, fun _ h => absurd h List.not_mem_nil⟩⟩⟩⟩⟩⟩⟩⟩⟩⟩⟩⟩⟩⟩)⟩
theorem rC18 : ∃ l, rAll 18 l = true := ⟨[(((-2147483648), 2147483647), [((-2147483648), 2147483647)])], by decide +kernel⟩
theorem rC19 : ∃ l, rAll 19 l = true := ⟨[(((-2147483648), (-1)), [((-2147483648), 2147483647)]), ((0, 2147483647), [((-2147483648), 2147483647)])], by decide +kernel⟩
theorem rC20 : ∃ l, rAll 20 l = true := ⟨[(((-2147483648), (-1)), [((-2147483648), 2147483647)]), ((0, 2147483647), [((-2147483648), 2147483647)])], by decide +kernel⟩
