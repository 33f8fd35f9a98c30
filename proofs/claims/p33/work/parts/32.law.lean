/-! The law, out of one evaluation. -/
def rLawY : Nat := 588
theorem W.mono9 {p : Program} {l : Launch} {e : Env} {R : Room} {s : State} {m : MethodId} {args : Array Value} {below : List Frame} {meth : Method} {c : Code} {H : Heap} {locs : List Loc} {cells slots : Nat} {Q Q' : State → Prop} {g : JFrame} (k : W p l e R s m args below meth c H locs cells slots Q g) (h : ∀ t, Q t → Q' t) : W p l e R s m args below meth c H locs cells slots Q' g := by
  intro T hT X
  obtain ⟨t, a, b⟩ := k T hT X
  exact ⟨t, a, h t b⟩
theorem rLaw {p : Program} {e : Env} {s : State} {m : MethodId} {below : List Frame} {meth : Method} {c : Code} (l : Launch) (hst : l.stackTraces = false) {b L : Nat} {xs : Nat → Int32}
    (hx : p.tables.exec = Jvm.exec) (hb : c.code = code) (hr : meth.sig.returnType = ret) (hml : c.maxLocals = maxLocals) (hown : s.vm.findClass R_law = some m.cls) (hts : ∀ w ∈ lw_tbl, w.before #[Value.ref b] s = true) (hX : va_X b L xs s s.heap) (hbl : b < s.heap.size) (hlocks : meth.locks = false) (hgv : (Jvm.Cond.and given_1 narrow_1).before #[Value.ref b] s = true)
    (hcw : (Cond.code x code maxLocals ret).before #[Value.ref b] s = true) (hname : meth.name = "law") (hexc : c.exceptionTable.toList = [])
    {O : re_K} (ρ : Nat → Int32) (σ : Nat → Int64) (hO : ∀ A1 : Nat → Nat, re_Ook ((A1, ρ, σ, L, xs) : re_V) O.1) (hOA : ∀ A1 : Nat → Nat, re_Aok ((A1, ρ, σ, L, xs) : re_V) O.2.1) (hSC : ∀ A1 : Nat → Nat, re_Sok ((A1, ρ, σ, L, xs) : re_V) O.2.2.1)
    (hPM : ∀ (A1 : Nat → Nat) (D : va_G) (tys : List (ClassId × FieldType)) (cA : Nat → ClassId), (∀ j, j < re_nE rG → tys[j]? = some (cA j, re_E rN j)) → re_Pok ((A1, ρ, σ, L, xs) : re_V) O rN rG l D tys cA s.heap.size)
    {n : Nat} {res : re_Res} (hgo : re_go rG O n rLawY 0 (lv_args 0 [.retAddr 2]) [] re_h0 = some res) (h1 : res.1 = 1) (h2 : res.2.1 = .int 1) (hk : res.2.2.2.1 ≤ room_1.cells) (hs : res.2.2.2.2.1 ≤ room_1.slots) (hf : res.2.2.2.2.2.1 ≤ room_1.frames) (hlo : res.2.2.2.2.2.2 ≤ room_1.locals) :
    W p l e room_1 s m #[Value.ref b] below meth c s.heap [] 0 0 (lw_Z below #[Value.ref b] s) (entryFrame m ([Value.ref b] : List Value).toArray maxLocals) := by
  obtain ⟨D, tys, cA, t9, mi9, hAt, hE⟩ := rSt hts hX hbl hgv ρ σ
  have hJ := re_all (l := l) (D := D) (tys := tys) (cA := cA) (B0 := s.heap.size) hst (hO (rOut t9 mi9 b)) (hOA (rOut t9 mi9 b)) (hSC (rOut t9 mi9 b)) (hPM (rOut t9 mi9 b) D tys cA hE) rOk rOkJ hE n
  have hl := lv_entry ([Value.ref b]) (n := maxLocals) (Nat.le_of_ble_eq_true rfl)
  rw [lg_entry_eq]
  generalize (lg_sl ([Value.ref b]) ++ List.replicate (maxLocals - (lg_sl ([Value.ref b])).length) Slot.unset).toArray = ls at hl ⊢
  have hF : re_Fr ((rOut t9 mi9 b, ρ, σ, L, xs) : re_V) rN rG D tys s.heap.size rLawY p s m #[Value.ref b] meth c := by
    refine ⟨hx, hb, hml, hr, hown, fun w hw => ?_, hlocks, hname, by rw [hexc]; rfl, hAt⟩
    rcases List.mem_cons.mp hw with rfl | hw
    · exact hcw
    · exact hts _ (List.mem_filter.mp hw).1
  refine W.mono9 (hJ rLawY 0 _ [] re_h0 res hgo p e room_1 s m #[Value.ref b] below meth c hF s.heap [] 0 0 ls _ [] [] [] [] hl (re_args 0 (vs := [.retAddr 2]) (ws := [.ref b]) ⟨rfl, trivial⟩) trivial ⟨⟨rfl, rfl, fun i c h => absurd (re_hg_lt h).1 (Nat.not_lt_zero i), trivial, fun i a h => (by cases h)⟩, fun k q h => (by cases h), ⟨fun i j p q h => (by cases h), fun k q h => (by cases h)⟩⟩ va_S.rf room_1.cells room_1.slots (by omega) (by omega) (Nat.le_refl _) (Nat.le_refl _) hf hlo) (fun t ht => ?_)
  obtain ⟨o, g1, g2, g3⟩ := ht
  rcases g3 with ⟨⟨⟨w, q, ws2, rfl, -, -, hv, -⟩, -⟩, Lo, ⟨-, hW, hsb⟩, hfree⟩ | ⟨q, rfl, E9, ce, L9, ⟨⟨x9, q9, ws9, hk9, -⟩, -⟩, -⟩
  · obtain ⟨w', rfl, hw'⟩ := hv (by omega)
    rw [h2] at hw'
    cases (show w' = .int 1 from hw')
    refine ⟨_, g1, g2, rfl, ⟨_, rfl⟩, hW, ?_⟩
    obtain ⟨b1, b2, b3, b4, b5, b6⟩ := hsb
    refine ⟨b1, b2, b3, b4, b5, fun a c hc => ?_⟩
    obtain ⟨c', d1, d2, d3, d4⟩ := b6 a c hc
    refine ⟨c', d1, d2, d3, fun i _ => d4 i (fun hm => ?_)⟩
    have := hfree _ hm
    have hlt := (Array.getElem?_eq_some_iff.mp hc).1
    exact absurd this (Nat.not_le.mpr hlt)
  · omega
