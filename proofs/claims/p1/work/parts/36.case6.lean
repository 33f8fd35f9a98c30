/-! Calls, kind by kind (written by a program). -/
theorem rC25_0 : rAq 25 (((-2147483648), (-1)), [((-2147483648), 2147483647)]) = true := by decide +kernel
theorem rC25_1 : rAq 25 ((0, 0), [((-2147483648), 2147483647)]) = true := by decide +kernel
theorem rC25_2 : rAq 25 ((1, 1), [((-2147483648), 2147483647)]) = true := by decide +kernel
theorem rC25_3 : rAq 25 ((2, 2), [((-2147483648), 2147483647)]) = true := by decide +kernel
theorem rC25_4 : rAq 25 ((3, 3), [((-2147483648), 2147483647)]) = true := by decide +kernel
theorem rC25_5 : rAq 25 ((4, 4), [((-2147483648), 2147483647)]) = true := by decide +kernel
theorem rC25_6 : rAq 25 ((5, 5), [((-2147483648), 2147483647)]) = true := by decide +kernel
theorem rC25_7 : rAq 25 ((6, 6), [((-2147483648), 2147483647)]) = true := by decide +kernel
theorem rC25_8 : rAq 25 ((7, 7), [((-2147483648), 2147483647)]) = true := by decide +kernel
theorem rC25_9 : rAq 25 ((8, 8), [((-2147483648), 2147483647)]) = true := by decide +kernel
theorem rC25_10 : rAq 25 ((9, 9), [((-2147483648), 2147483647)]) = true := by decide +kernel
theorem rC25_11 : rAq 25 ((10, 10), [((-2147483648), 2147483647)]) = true := by decide +kernel
theorem rC25_12 : rAq 25 ((11, 11), [((-2147483648), 2147483647)]) = true := by decide +kernel
theorem rC25_13 : rAq 25 ((12, 2147483647), [((-2147483648), 2147483647)]) = true := by decide +kernel
theorem rC25 : ∃ l, rAll 25 l = true := ⟨[(((-2147483648), (-1)), [((-2147483648), 2147483647)]), ((0, 0), [((-2147483648), 2147483647)]), ((1, 1), [((-2147483648), 2147483647)]), ((2, 2), [((-2147483648), 2147483647)]), ((3, 3), [((-2147483648), 2147483647)]), ((4, 4), [((-2147483648), 2147483647)]), ((5, 5), [((-2147483648), 2147483647)]), ((6, 6), [((-2147483648), 2147483647)]), ((7, 7), [((-2147483648), 2147483647)]), ((8, 8), [((-2147483648), 2147483647)]), ((9, 9), [((-2147483648), 2147483647)]), ((10, 10), [((-2147483648), 2147483647)]), ((11, 11), [((-2147483648), 2147483647)]), ((12, 2147483647), [((-2147483648), 2147483647)])], rAll_of (by decide +kernel) (List.forall_mem_cons.mpr ⟨rC25_0, List.forall_mem_cons.mpr ⟨rC25_1, List.forall_mem_cons.mpr ⟨rC25_2, List.forall_mem_cons.mpr ⟨rC25_3, List.forall_mem_cons.mpr ⟨rC25_4, List.forall_mem_cons.mpr ⟨rC25_5, List.forall_mem_cons.mpr ⟨rC25_6, List.forall_mem_cons.mpr ⟨rC25_7, List.forall_mem_cons.mpr ⟨rC25_8, List.forall_mem_cons.mpr ⟨rC25_9, List.forall_mem_cons.mpr ⟨rC25_10, List.forall_mem_cons.mpr ⟨rC25_11, List.forall_mem_cons.mpr ⟨rC25_12, List.forall_mem_cons.mpr ⟨rC25_13, fun _ h => absurd h List.not_mem_nil⟩⟩⟩⟩⟩⟩⟩⟩⟩⟩⟩⟩⟩⟩)⟩
theorem rC26_0 : rAq 26 (((-2147483648), (-1)), [((-2147483648), 2147483647)]) = true := by decide +kernel
theorem rC26_1 : rAq 26 ((0, 0), [((-2147483648), 2147483647)]) = true := by decide +kernel
theorem rC26_2 : rAq 26 ((1, 1), [((-2147483648), 2147483647)]) = true := by decide +kernel
theorem rC26_3 : rAq 26 ((2, 2), [((-2147483648), 2147483647)]) = true := by decide +kernel
theorem rC26_4 : rAq 26 ((3, 3), [((-2147483648), 2147483647)]) = true := by decide +kernel
theorem rC26_5 : rAq 26 ((4, 4), [((-2147483648), 2147483647)]) = true := by decide +kernel
theorem rC26_6 : rAq 26 ((5, 5), [((-2147483648), 2147483647)]) = true := by decide +kernel
theorem rC26_7 : rAq 26 ((6, 6), [((-2147483648), 2147483647)]) = true := by decide +kernel
theorem rC26_8 : rAq 26 ((7, 7), [((-2147483648), 2147483647)]) = true := by decide +kernel
theorem rC26_9 : rAq 26 ((8, 8), [((-2147483648), 2147483647)]) = true := by decide +kernel
theorem rC26_10 : rAq 26 ((9, 9), [((-2147483648), 2147483647)]) = true := by decide +kernel
theorem rC26_11 : rAq 26 ((10, 10), [((-2147483648), 2147483647)]) = true := by decide +kernel
theorem rC26_12 : rAq 26 ((11, 11), [((-2147483648), 2147483647)]) = true := by decide +kernel
theorem rC26_13 : rAq 26 ((12, 2147483647), [((-2147483648), 2147483647)]) = true := by decide +kernel
theorem rC26 : ∃ l, rAll 26 l = true := ⟨[(((-2147483648), (-1)), [((-2147483648), 2147483647)]), ((0, 0), [((-2147483648), 2147483647)]), ((1, 1), [((-2147483648), 2147483647)]), ((2, 2), [((-2147483648), 2147483647)]), ((3, 3), [((-2147483648), 2147483647)]), ((4, 4), [((-2147483648), 2147483647)]), ((5, 5), [((-2147483648), 2147483647)]), ((6, 6), [((-2147483648), 2147483647)]), ((7, 7), [((-2147483648), 2147483647)]), ((8, 8), [((-2147483648), 2147483647)]), ((9, 9), [((-2147483648), 2147483647)]), ((10, 10), [((-2147483648), 2147483647)]), ((11, 11), [((-2147483648), 2147483647)]), ((12, 2147483647), [((-2147483648), 2147483647)])], rAll_of (by decide +kernel) (List.forall_mem_cons.mpr ⟨rC26_0, List.forall_mem_cons.mpr ⟨rC26_1, List.forall_mem_cons.mpr ⟨rC26_2, List.forall_mem_cons.mpr ⟨rC26_3, List.forall_mem_cons.mpr ⟨rC26_4, List.forall_mem_cons.mpr ⟨rC26_5, List.forall_mem_cons.mpr ⟨rC26_6, List.forall_mem_cons.mpr ⟨rC26_7, List.forall_mem_cons.mpr ⟨rC26_8, List.forall_mem_cons.mpr ⟨rC26_9, List.forall_mem_cons.mpr ⟨rC26_10, List.forall_mem_cons.mpr ⟨rC26_11, List.forall_mem_cons.mpr ⟨rC26_12, List.forall_mem_cons.mpr ⟨rC26_13, fun _ h => absurd h List.not_mem_nil⟩⟩⟩⟩⟩⟩⟩⟩⟩⟩⟩⟩⟩⟩)⟩
theorem rC27_0 : rAq 27 (((-2147483648), (-1)), [((-2147483648), 2147483647)]) = true := by decide +kernel
theorem rC27_1 : rAq 27 ((0, 0), [((-2147483648), 2147483647)]) = true := by decide +kernel
theorem rC27_2 : rAq 27 ((1, 1), [((-2147483648), 2147483647)]) = true := by decide +kernel
theorem rC27_3 : rAq 27 ((2, 2), [((-2147483648), 2147483647)]) = true := by decide +kernel
theorem rC27_4 : rAq 27 ((3, 3), [((-2147483648), 2147483647)]) = true := by decide +kernel
theorem rC27_5 : rAq 27 ((4, 4), [((-2147483648), 2147483647)]) = true := by decide +kernel
theorem rC27_6 : rAq 27 ((5, 5), [((-2147483648), 2147483647)]) = true := by decide +kernel
theorem rC27_7 : rAq 27 ((6, 6), [((-2147483648), 2147483647)]) = true := by decide +kernel
theorem rC27_8 : rAq 27 ((7, 7), [((-2147483648), 2147483647)]) = true := by decide +kernel
theorem rC27_9 : rAq 27 ((8, 8), [((-2147483648), 2147483647)]) = true := by decide +kernel
theorem rC27_10 : rAq 27 ((9, 9), [((-2147483648), 2147483647)]) = true := by decide +kernel
theorem rC27_11 : rAq 27 ((10, 10), [((-2147483648), 2147483647)]) = true := by decide +kernel
theorem rC27_12 : rAq 27 ((11, 11), [((-2147483648), 2147483647)]) = true := by decide +kernel
theorem rC27_13 : rAq 27 ((12, 2147483647), [((-2147483648), 2147483647)]) = true := by decide +kernel
theorem rC27 : ∃ l, rAll 27 l = true := ⟨[(((-2147483648), (-1)), [((-2147483648), 2147483647)]), ((0, 0), [((-2147483648), 2147483647)]), ((1, 1), [((-2147483648), 2147483647)]), ((2, 2), [((-2147483648), 2147483647)]), ((3, 3), [((-2147483648), 2147483647)]), ((4, 4), [((-2147483648), 2147483647)]), ((5, 5), [((-2147483648), 2147483647)]), ((6, 6), [((-2147483648), 2147483647)]), ((7, 7), [((-2147483648), 2147483647)]), ((8, 8), [((-2147483648), 2147483647)]), ((9, 9), [((-2147483648), 2147483647)]), ((10, 10), [((-2147483648), 2147483647)]), ((11, 11), [((-2147483648), 2147483647)]), ((12, 2147483647), [((-2147483648), 2147483647)])], rAll_of (by decide +kernel) (List.forall_mem_cons.mpr ⟨rC27_0, List.forall_mem_cons.mpr ⟨rC27_1, List.forall_mem_cons.mpr ⟨rC27_2, List.forall_mem_cons.mpr ⟨rC27_3, List.forall_mem_cons.mpr ⟨rC27_4, List.forall_mem_cons.mpr ⟨rC27_5, List.forall_mem_cons.mpr ⟨rC27_6, List.forall_mem_cons.mpr ⟨rC27_7, List.forall_mem_cons.mpr ⟨rC27_8, List.forall_mem_cons.mpr ⟨rC27_9, List.forall_mem_cons.mpr ⟨rC27_10, List.forall_mem_cons.mpr ⟨rC27_11, List.forall_mem_cons.mpr ⟨rC27_12, List.forall_mem_cons.mpr ⟨rC27_13, fun _ h => absurd h List.not_mem_nil⟩⟩⟩⟩⟩⟩⟩⟩⟩⟩⟩⟩⟩⟩)⟩
theorem rC28_0 : rAq 28 (((-2147483648), (-1)), [((-2147483648), 2147483647)]) = true := by decide +kernel
theorem rC28_1 : rAq 28 ((0, 0), [((-2147483648), 2147483647)]) = true := by decide +kernel
theorem rC28_2 : rAq 28 ((1, 1), [((-2147483648), 2147483647)]) = true := by decide +kernel
theorem rC28_3 : rAq 28 ((2, 2), [((-2147483648), 2147483647)]) = true := by decide +kernel
theorem rC28_4 : rAq 28 ((3, 3), [((-2147483648), 2147483647)]) = true := by decide +kernel
theorem rC28_5 : rAq 28 ((4, 4), [((-2147483648), 2147483647)]) = true := by decide +kernel
theorem rC28_6 : rAq 28 ((5, 5), [((-2147483648), 2147483647)]) = true := by decide +kernel
theorem rC28_7 : rAq 28 ((6, 6), [((-2147483648), 2147483647)]) = true := by decide +kernel
theorem rC28_8 : rAq 28 ((7, 7), [((-2147483648), 2147483647)]) = true := by decide +kernel
theorem rC28_9 : rAq 28 ((8, 8), [((-2147483648), 2147483647)]) = true := by decide +kernel
theorem rC28_10 : rAq 28 ((9, 9), [((-2147483648), 2147483647)]) = true := by decide +kernel
theorem rC28_11 : rAq 28 ((10, 10), [((-2147483648), 2147483647)]) = true := by decide +kernel
theorem rC28_12 : rAq 28 ((11, 11), [((-2147483648), 2147483647)]) = true := by decide +kernel
theorem rC28_13 : rAq 28 ((12, 2147483647), [((-2147483648), 2147483647)]) = true := by decide +kernel
theorem rC28 : ∃ l, rAll 28 l = true := ⟨[(((-2147483648), (-1)), [((-2147483648), 2147483647)]), ((0, 0), [((-2147483648), 2147483647)]), ((1, 1), [((-2147483648), 2147483647)]), ((2, 2), [((-2147483648), 2147483647)]), ((3, 3), [((-2147483648), 2147483647)]), ((4, 4), [((-2147483648), 2147483647)]), ((5, 5), [((-2147483648), 2147483647)]), ((6, 6), [((-2147483648), 2147483647)]), ((7, 7), [((-2147483648), 2147483647)]), ((8, 8), [((-2147483648), 2147483647)]), ((9, 9), [((-2147483648), 2147483647)]), ((10, 10), [((-2147483648), 2147483647)]), ((11, 11), [((-2147483648), 2147483647)]), ((12, 2147483647), [((-2147483648), 2147483647)])], rAll_of (by decide +kernel) (List.forall_mem_cons.mpr ⟨rC28_0, List.forall_mem_cons.mpr ⟨rC28_1, List.forall_mem_cons.mpr ⟨rC28_2, List.forall_mem_cons.mpr ⟨rC28_3, List.forall_mem_cons.mpr ⟨rC28_4, List.forall_mem_cons.mpr ⟨rC28_5, List.forall_mem_cons.mpr ⟨rC28_6, List.forall_mem_cons.mpr ⟨rC28_7, List.forall_mem_cons.mpr ⟨rC28_8, List.forall_mem_cons.mpr ⟨rC28_9, List.forall_mem_cons.mpr ⟨rC28_10, List.forall_mem_cons.mpr ⟨rC28_11, List.forall_mem_cons.mpr ⟨rC28_12, List.forall_mem_cons.mpr ⟨rC28_13, fun _ h => absurd h List.not_mem_nil⟩⟩⟩⟩⟩⟩⟩⟩⟩⟩⟩⟩⟩⟩)⟩
theorem rC29_0 : rAq 29 (((-2147483648), (-1)), [((-2147483648), 2147483647)]) = true := by decide +kernel
theorem rC29_1 : rAq 29 ((0, 0), [((-2147483648), 2147483647)]) = true := by decide +kernel
theorem rC29_2 : rAq 29 ((1, 1), [((-2147483648), 2147483647)]) = true := by decide +kernel
theorem rC29_3 : rAq 29 ((2, 2), [((-2147483648), 2147483647)]) = true := by decide +kernel
theorem rC29_4 : rAq 29 ((3, 3), [((-2147483648), 2147483647)]) = true := by decide +kernel
theorem rC29_5 : rAq 29 ((4, 4), [((-2147483648), 2147483647)]) = true := by decide +kernel
theorem rC29_6 : rAq 29 ((5, 5), [((-2147483648), 2147483647)]) = true := by decide +kernel
theorem rC29_7 : rAq 29 ((6, 6), [((-2147483648), 2147483647)]) = true := by decide +kernel
theorem rC29_8 : rAq 29 ((7, 7), [((-2147483648), 2147483647)]) = true := by decide +kernel
theorem rC29_9 : rAq 29 ((8, 8), [((-2147483648), 2147483647)]) = true := by decide +kernel
theorem rC29_10 : rAq 29 ((9, 9), [((-2147483648), 2147483647)]) = true := by decide +kernel
theorem rC29_11 : rAq 29 ((10, 10), [((-2147483648), 2147483647)]) = true := by decide +kernel
theorem rC29_12 : rAq 29 ((11, 11), [((-2147483648), 2147483647)]) = true := by decide +kernel
theorem rC29_13 : rAq 29 ((12, 2147483647), [((-2147483648), 2147483647)]) = true := by decide +kernel
theorem rC29 : ∃ l, rAll 29 l = true := ⟨[(((-2147483648), (-1)), [((-2147483648), 2147483647)]), ((0, 0), [((-2147483648), 2147483647)]), ((1, 1), [((-2147483648), 2147483647)]), ((2, 2), [((-2147483648), 2147483647)]), ((3, 3), [((-2147483648), 2147483647)]), ((4, 4), [((-2147483648), 2147483647)]), ((5, 5), [((-2147483648), 2147483647)]), ((6, 6), [((-2147483648), 2147483647)]), ((7, 7), [((-2147483648), 2147483647)]), ((8, 8), [((-2147483648), 2147483647)]), ((9, 9), [((-2147483648), 2147483647)]), ((10, 10), [((-2147483648), 2147483647)]), ((11, 11), [((-2147483648), 2147483647)]), ((12, 2147483647), [((-2147483648), 2147483647)])], rAll_of (by decide +kernel) (List.forall_mem_cons.mpr ⟨rC29_0, List.forall_mem_cons.mpr ⟨rC29_1, List.forall_mem_cons.mpr ⟨rC29_2, List.forall_mem_cons.mpr ⟨rC29_3, List.forall_mem_cons.mpr ⟨rC29_4, List.forall_mem_cons.mpr ⟨rC29_5, List.forall_mem_cons.mpr ⟨rC29_6, List.forall_mem_cons.mpr ⟨rC29_7, List.forall_mem_cons.mpr ⟨rC29_8, List.forall_mem_cons.mpr ⟨rC29_9, List.forall_mem_cons.mpr ⟨rC29_10, List.forall_mem_cons.mpr ⟨rC29_11, List.forall_mem_cons.mpr ⟨rC29_12, List.forall_mem_cons.mpr ⟨rC29_13, fun _ h => absurd h List.not_mem_nil⟩⟩⟩⟩⟩⟩⟩⟩⟩⟩⟩⟩⟩⟩)⟩
theorem rC30 : ∃ l, rAll 30 l = true := ⟨[(((-2147483648), 2147483647), [((-2147483648), 2147483647)])], by decide +kernel⟩
theorem rC31 : ∃ l, rAll 31 l = true := ⟨[(((-2147483648), 2147483647), [((-2147483648), 2147483647)])], by decide +kernel⟩
