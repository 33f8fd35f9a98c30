/-! The walk is what the machine does. -/
section REM
variable {V : re_V} {O : re_K} {p : Program} {l : Launch} {e : Env} {R : Room} {s : State} {m : MethodId} {args : Array Value} {below : List Frame} {meth : Method} {c : Code} {H : Heap} {locs : List Loc} {cells slots : Nat} {Q : State → Prop} {pc : Nat} {ls : Array Slot}
variable {N : re_N} {G : re_G} {D : va_G} {tys : List (ClassId × FieldType)} {cA : Nat → ClassId} {B0 y : Nat}
theorem re_Wd_kept {ad : List Nat} {h : re_H} {ws : va_W} {H1 : Heap} (hW : re_Wd V N D cA B0 ad h ws H) (hk : ∀ q : Nat, q < H.size → H1[q]? = H[q]?) : re_Wd V N D cA B0 ad h ws H1 :=
  ⟨hW.1, fun k q hq => (hW.2.1 k q hq).kept (hk _ (hW.2.1 k q hq).lt), hW.2.2⟩
theorem re_throw_ok (hl : l.stackTraces = false) (hG : re_ok N G) (F : re_Fr V N G D tys B0 y p s m args meth c) {x : Nat} {st sc : List Value} {h : re_H} {ws : va_W} {ad0 q9 : List Nat} {mc ms nL : Nat} {lc : List (Nat × Value)} {v : Value}
    (hx9 : re_tw G y pc = some x) (hls : lv_has ls (re_nl G y) lc) (rs : re_rs V (ad0 ++ q9) st sc) (hW : re_Wd V N D cA B0 (ad0 ++ q9) h ws H) (hS : va_S (fun q => B0 ≤ q) s.heap H locs)
    (hc1 : cells + 1 ≤ mc) (hs1 : slots + 6 ≤ ms) (hmc : mc ≤ R.cells) (hms : ms ≤ R.slots) (hfr : 6 ≤ R.frames) (hlo : re_cat st + 82 ≤ R.locals) :
    W p l e R s m args below meth c H locs cells slots (vx_MQ below (re_Q V N D cA B0 ad0 (4 + x) v h) (re_XQ V N D cA B0 ad0 (4 + x) h) args s mc ms (fun q => B0 ≤ q)) (F0 m pc ls sc) := by
  obtain ⟨hx, hb, hml, hr, hown, hts, hlocks, hname, hexc, hK, hZ1, hZ2, hSt, hB0, hAO, hTW, hX1, hX2, hX3⟩ := id F
  obtain ⟨o1, o2, o3, o4, o5, o6, o7, o8, o9, o10, o11, o12, o13, o14, o15⟩ := id hG
  have hBin : ∀ w ∈ re_B N, w.before args s = true := fun w hw => hts w (List.mem_cons_of_mem _ hw)
  obtain ⟨⟨tx, ik, is, ic, text, t1, t2, t3, t4, t5, t6, t7, t8, t9⟩, thh⟩ := o12 _ _ _ hx9
  have hno : ∀ z ∈ c.exceptionTable.toList, False := fun z hz => by
    rw [thh] at hexc
    rw [List.map_eq_nil_iff.mp hexc] at hz
    exact absurd hz List.not_mem_nil
  obtain ⟨sa, hsa⟩ := hSt _ t4
  have hat : ∀ w ∈ vx_atS (re_yn N y).cls ic (re_xn N x) re_xs, w.before args s = true := fun w hw => by
    rcases t5 w hw with h1 | h1
    · exact hBin w h1
    · obtain ⟨q1, q2⟩ := hTW w h1
      rcases q1 with ⟨C, T, rfl⟩ | ⟨a, i, x, z, rfl⟩ | ⟨x, rfl⟩
      · exact va_Nw.use rfl q2
      · exact va_Nw.use rfl q2
      · exact va_Nw.use rfl q2
  have hcats : (sc.map fun v => v.category).sum + 82 ≤ R.locals := by
    have := re_cat_c rs
    unfold re_cat at this hlo
    omega
  have hend : ∀ t : State, s.vm.Alike t.vm → H.size ≤ t.heap.size → (∀ q : Nat, q < H.size → t.heap[q]? = H[q]?) → re_XQ V N D cA B0 ad0 (4 + x) h (re_xn N x) s t := fun t hvm hz hk => by
    refine ⟨⟨x, q9, ws, rfl, tx, rfl, re_Wd_kept hW hk⟩, Nat.le_trans hS.1 hz, fun q h1 h2 => ?_⟩
    rw [hk q (Nat.lt_of_lt_of_le h1 hS.1)]
    exact hS.2.1 q h1 h2
  rcases t9 with ⟨t9, t10, t11⟩ | ⟨t9, t10, t11⟩
  · exact vx_throwS (A := fun q => B0 ≤ q) hx hb hl (names := re_xs) hown t1 (by decide +kernel) (hBin _ t2) (hBin _ t3) hsa hat t6 hZ1 hZ2 hS (by rw [hls.1, hml]) t7 t8 t9 t10 t11 (fun z hz => (hno z hz).elim) (show 5 < R.frames by omega) hcats (by omega) (by omega) hlocks hend hS.2.2 hc1 hs1
  · exact vx_throwSW (A := fun q => B0 ≤ q) hx hb hl (names := re_xs) hown t1 (by decide +kernel) (hBin _ t2) (hBin _ t3) hsa hat t6 hZ1 hZ2 hS (by rw [hls.1, hml]) t7 t8 t9 t10 t11 (fun z hz => (hno z hz).elim) (show 5 < R.frames by omega) hcats (by omega) (by omega) hlocks hend hS.2.2 hc1 hs1
/-- a method, out of the walk of its body -/
theorem re_met {n : Nat} (hJ : re_J V O N G l D tys cA B0 n) {y : Nat} {as asC : List Value} {h : re_H} {res : re_Res} (hy : plainName (re_yn N y).cls = true) (hgo : re_go G O n y 0 (lv_args 0 as) [] h = some res) {ad : List Nat} {ws : va_W} (rs : re_rs V ad as asC) (hn : re_cat as ≤ re_nl G y) :
    vx_Met l (re_yn N y) (re_ws N G y) ({ frames := res.2.2.2.2.2.1, cells := res.2.2.2.1, slots := res.2.2.2.2.1, locals := res.2.2.2.2.2.2 }) (re_Pc V N D tys cA B0 asC ad h ws) (re_Q V N D cA B0 ad res.1 res.2.1 res.2.2.1) (re_XQ V N D cA B0 ad res.1 res.2.2.1) res.2.2.2.1 res.2.2.2.2.1 (fun q => B0 ≤ q) := by
  have hbody : ∀ (p : Program) (e : Env) (s : State) (m : MethodId) (args : Array Value) (below : List Frame) (meth : Method) (c : Code) (s₁ : State), BodyLoose p l (re_yn N y) (headSpec (re_ws N G y) { frames := res.2.2.2.2.2.1, cells := res.2.2.2.1, slots := res.2.2.2.2.1, locals := res.2.2.2.2.2.2 }) (re_yb N y) (re_nl G y) (re_rt G y) e s m args below meth c s₁ → c.maxLocals = re_nl G y →
      c.exceptionTable.toList.map (fun z => (z.startPc, z.endPc, z.handlerPc, z.catchType)) = re_hh G y → re_Pc V N D tys cA B0 asC ad h ws args s →
      W p l e ({ frames := res.2.2.2.2.2.1, cells := res.2.2.2.1, slots := res.2.2.2.2.1, locals := res.2.2.2.2.2.2 } : Room) s m args below meth c s.heap [] 0 0 (vx_MQ below (re_Q V N D cA B0 ad res.1 res.2.1 res.2.2.1) (re_XQ V N D cA B0 ad res.1 res.2.2.1) args s res.2.2.2.1 res.2.2.2.2.1 (fun q => B0 ≤ q)) (entryFrame m args (re_nl G y)) := by
    intro p e s m args below meth c s₁ B hml hexc hPc
    obtain ⟨rfl, hAt, hWd⟩ := hPc
    have hts := atoms_spec (ws := re_ws N G y) B.pre
    have hown : s.vm.findClass (re_yn N y).cls = some m.cls := findClass_of_methodNamed B.named
    have hnm : meth.name = (re_yn N y).name := (name_of_methodNamed B.named B.method).1
    have hl := lv_entry asC (n := re_nl G y) (Nat.le_trans (re_sl asC) (by rw [re_cat_c rs]; exact hn))
    rw [lg_entry_eq]
    generalize (lg_sl asC ++ List.replicate (re_nl G y - (lg_sl asC).length) Slot.unset).toArray = ls at hl ⊢
    exact hJ y 0 _ [] h res hgo p e _ s m _ below meth c ⟨B.exec, B.bytes, hml, B.returns, hown, hts, B.notSynchronized, hnm, hexc, hAt⟩ s.heap [] 0 0 ls _ [] ad [] ws hl (by rw [List.append_nil]; exact re_args 0 rs) trivial (by rw [List.append_nil]; exact hWd) va_S.rf _ _ (by omega) (by omega) (Nat.le_refl _) (Nat.le_refl _) (Nat.le_refl _) (Nat.le_refl _)
  cases hhh : re_hh G y with
  | nil =>
    refine vx_ofW (cc := re_yb N y) (maxL := re_nl G y) (ret := re_rt G y) (ws' := re_B N) hy (by unfold re_ws re_cw; rw [hhh]) ?_
    intro p e s m args below meth c s₁ B hml hexc hPc
    refine hbody p e s m args below meth c s₁ B hml ?_ hPc
    rw [hhh]
    cases hl9 : c.exceptionTable.toList with
    | nil => rfl
    | cons z r => exact (hexc z (by rw [hl9]; exact List.mem_cons_self)).elim
  | cons z9 r9 =>
    refine vx_ofWH (cc := re_yb N y) (maxL := re_nl G y) (ret := re_rt G y) (ws' := re_B N) (hh := re_hh G y) hy (by unfold re_ws re_cw; rw [hhh]) ?_
    intro p e s m args below meth c s₁ B hml hPc
    refine hbody p e s m args below meth c s₁ B hml ?_ hPc
    have hts := atoms_spec (ws := re_ws N G y) B.pre
    have hw : Cond.codeWith (re_yn N y) (re_yb N y) (re_nl G y) (re_rt G y) (re_hh G y) ∈ re_ws N G y := by unfold re_ws re_cw; rw [hhh]; exact List.mem_cons_self
    obtain ⟨m9, meth9, c9, hn9, hm9, hc9, -, -, ht9, -⟩ := Cond.codeWith_spec (hts _ hw)
    cases B.named.symm.trans hn9
    cases B.method.symm.trans hm9
    have hcode : meth.code = some c := (Stand.of_body B).code
    cases hcode.symm.trans hc9
    exact ht9
theorem re_good (hG : re_ok N G) {y y' na : Nat} (hM : re_okM N G y' na) : GoodIn (re_ws N G y) (re_ws N G y') := by
  obtain ⟨o1, o2, o3, o4, o5, o6, o7, o8, o9, o10, o11, o12, o13, o14, o15⟩ := id hG
  intro w hw
  have hB : w ∈ re_B N := by
    rcases List.mem_cons.mp hw with rfl | h1
    · exact hM.1
    · exact h1
  exact ⟨List.mem_cons_of_mem _ hB, good_of_word (o13 w hB)⟩
theorem re_hf_none {hk : Nat → Option Nat} {pc x : Nat} : ∀ {rows : List (Nat × Nat × Nat × Nat)}, re_hf hk pc x rows = some none → ∀ z ∈ rows, (¬ (z.1 ≤ pc ∧ pc < z.2.1)) ∨ ∃ x', hk z.2.2.2 = some x' ∧ ¬ x' = x
  | [], _, z, hz => absurd hz List.not_mem_nil
  | w :: r, h, z, hz => by
    unfold re_hf at h
    split at h
    next hc =>
      split at h
      next x' hx' =>
        split at h
        next => cases h
        next hne =>
          rcases List.mem_cons.mp hz with rfl | hz
          · exact Or.inr ⟨x', hx', hne⟩
          · exact re_hf_none h z hz
      next => cases h
    next hc =>
      rcases List.mem_cons.mp hz with rfl | hz
      · exact Or.inl hc
      · exact re_hf_none h z hz
theorem re_hf_some {hk : Nat → Option Nat} {pc x hp : Nat} : ∀ {rows : List (Nat × Nat × Nat × Nat)}, re_hf hk pc x rows = some (some hp) → ∃ (pre : List (Nat × Nat × Nat × Nat)) (z : Nat × Nat × Nat × Nat) (suf : List (Nat × Nat × Nat × Nat)), rows = pre ++ z :: suf ∧ (∀ w ∈ pre, (¬ (w.1 ≤ pc ∧ pc < w.2.1)) ∨ ∃ x', hk w.2.2.2 = some x' ∧ ¬ x' = x) ∧ (z.1 ≤ pc ∧ pc < z.2.1) ∧ hk z.2.2.2 = some x ∧ hp = z.2.2.1
  | [], h => by cases h
  | w :: r, h => by
    unfold re_hf at h
    split at h
    next hc =>
      split at h
      next x' hx' =>
        split at h
        next he => cases h; subst he; exact ⟨[], w, r, rfl, fun _ h => absurd h List.not_mem_nil, hc, hx', rfl⟩
        next hne =>
          obtain ⟨pre, z, suf, e1, e2, e3⟩ := re_hf_some h
          refine ⟨w :: pre, z, suf, by rw [e1]; rfl, fun w' hw' => ?_, e3⟩
          rcases List.mem_cons.mp hw' with rfl | hw'
          · exact Or.inr ⟨x', hx', hne⟩
          · exact e2 w' hw'
      next => cases h
    next hc =>
      obtain ⟨pre, z, suf, e1, e2, e3⟩ := re_hf_some h
      refine ⟨w :: pre, z, suf, by rw [e1]; rfl, fun w' hw' => ?_, e3⟩
      rcases List.mem_cons.mp hw' with rfl | hw'
      · exact Or.inl hc
      · exact e2 w' hw'
def re_aftc (G : re_G) (O : re_K) (n y y' pc : Nat) (lv : List (Nat × Value)) (rest : List Value) (a : re_Res) : Option re_Res :=
  if a.1 < 4 then (re_go G O n y (pc + 3) lv (re_vl a rest) a.2.2.1).map (re_aft (re_nl G y') a) else (match re_hf (re_hk G y) pc (a.1 - 4) (re_hh G y) with
    | some none => some (re_aft (re_nl G y') a (a.1, a.2.1, a.2.2.1, 0, 0, 0, 0))
    | some (some hp) => (match re_hs (re_nl G y) (re_ins G y hp) hp with
      | some (k, npc) => (re_go G O n y npc (re_lv9 lv k) [] a.2.2.1).map (re_aft (re_nl G y') a)
      | none => none)
    | none => none)
/-- behind a call: the rest of the walk, or the throw goes on -/
theorem re_call_ok {n : Nat} (hJ : re_J V O N G l D tys cA B0 n) (hG : re_ok N G) (F : re_Fr V N G D tys B0 y p s m args meth c) {y' : Nat} {a res : re_Res} {lv lc : List (Nat × Value)} {st0 rest restC : List Value} {ad0 q9 : List Nat} {mc ms : Nat} {ar : Array Value}
    (hr : vx_Run p l e R s m args below meth c H locs cells slots a.2.2.2.1 a.2.2.2.2.1 (F0 m pc ls st0) restC (re_Q V N D cA B0 (ad0 ++ q9) a.1 a.2.1 a.2.2.1 ar) (re_XQ V N D cA B0 (ad0 ++ q9) a.1 a.2.2.1) (fun q => B0 ≤ q))
    (hl : lv_has ls (re_nl G y) lc) (rl : re_rl V (ad0 ++ q9) lv lc) (rs : re_rs V (ad0 ++ q9) rest restC) (hS : va_S (fun q => B0 ≤ q) s.heap H locs)
    (hres : re_aftc G O n y y' pc lv rest a = some res)
    (hc1 : cells + res.2.2.2.1 ≤ mc) (hs1 : slots + res.2.2.2.2.1 ≤ ms) (hmc : mc ≤ R.cells) (hms : ms ≤ R.slots) (hfr : res.2.2.2.2.2.1 ≤ R.frames) (hlo : res.2.2.2.2.2.2 ≤ R.locals) :
    W p l e R s m args below meth c H locs cells slots (vx_MQ below (re_Q V N D cA B0 ad0 res.1 res.2.1 res.2.2.1) (re_XQ V N D cA B0 ad0 res.1 res.2.2.1) args s mc ms (fun q => B0 ≤ q)) (F0 m pc ls st0) := by
  obtain ⟨hx, hb, hml, hr', hown, hts, hlocks, hname, hexc, hAt⟩ := id F
  obtain ⟨hK, hZ1, hZ2, hSt, hB0, hAO, hTW, hX1, hX2, hX3⟩ := id hAt
  obtain ⟨o1, o2, o3, o4, o5, o6, o7, o8, o9, o10, o11, o12, o13, o14, o15⟩ := id hG
  have hBin : ∀ w ∈ re_B N, w.before args s = true := fun w hw => hts w (List.mem_cons_of_mem _ hw)
  unfold re_aftc at hres
  refine re_run hr hS (fun _ h => h) (fun st v t hq => hq.2) (fun En st t hq => hq.2) (fun v st₀ t H1 locs1 ht hq hS1 => ?_) (fun En ce q st₀ t H1 locs1 ht hq hS1 hce hcv hcl => ?_)
  · obtain ⟨⟨w, q2, ws2, hw, hk, hk0, hk1, hWd⟩, -⟩ := hq
    cases hw
    rw [if_pos hk] at hres
    obtain ⟨r, hr2, rfl⟩ := Option.map_eq_some_iff.mp hres
    rw [ht] at hWd
    have hst : re_rs V (ad0 ++ (q9 ++ q2)) (re_vl a rest) (v.toList ++ restC) := by
      rw [← List.append_assoc]
      unfold re_vl
      split
      · next h0 => rw [hk0 h0]; exact re_rs_up q2 rs
      · next h0 =>
        obtain ⟨w', hw', hv'⟩ := hk1 h0
        rw [hw']
        exact ⟨hv', re_rs_up q2 rs⟩
    have hc2 : cells + (a.2.2.2.1 + r.2.2.2.1) ≤ mc := hc1
    have hs2 : slots + (a.2.2.2.2.1 + r.2.2.2.2.1) ≤ ms := hs1
    have hf2 : max (a.2.2.2.2.2.1 + 1) r.2.2.2.2.2.1 ≤ R.frames := hfr
    have hl2 : max (8 + (re_nl G y' + 11) + a.2.2.2.2.2.2) r.2.2.2.2.2.2 ≤ R.locals := hlo
    exact hJ y (pc + 3) lv _ _ r hr2 p e R s m args below meth c F H1 locs1 _ _ ls lc _ ad0 (q9 ++ q2) ws2 hl (by rw [← List.append_assoc]; exact re_rl_up q2 rl) hst (by rw [← List.append_assoc]; exact hWd) hS1 mc ms (by omega) (by omega) hmc hms (by omega) (by omega)
  · obtain ⟨⟨x, q2, ws2, hk, hx3, hEn, hWd⟩, -⟩ := hq
    rw [if_neg (by omega), show a.1 - 4 = x by omega] at hres
    rw [ht] at hWd
    have hpass : ∀ z : ExceptionTableEntry, ((¬ (z.startPc ≤ pc ∧ pc < z.endPc)) ∨ ∃ x', re_hk G y z.catchType = some x' ∧ ¬ x' = x) → covers z pc = false ∨ (z.catchType ≠ 0 ∧ ∃ nm : String, (Cond.classLink (re_yn N y).cls z.catchType nm).before args s = true ∧ va_Nc En nm s) := fun z hz => by
      rcases hz with hz | ⟨x', hx', hne⟩
      · refine Or.inl ?_
        cases hcv9 : covers z pc with
        | false => rfl
        | true =>
          simp only [covers, Bool.and_eq_true, decide_eq_true_eq] at hcv9
          exact absurd hcv9 hz
      · obtain ⟨k1, k2, k3, k4⟩ := o15 _ _ _ hx'
        exact Or.inr ⟨k2, _, hBin _ k3, by rw [hEn]; exact hX3.1 x x' hx3 k1 (fun z => hne z.symm)⟩
    split at hres
    next hnone =>
      cases hres
      have hc2 : cells + (a.2.2.2.1 + 0) ≤ mc := hc1
      have hs2 : slots + (a.2.2.2.2.1 + 0) ≤ ms := hs1
      refine vx_outP hown hlocks (fun z hz => hpass z (re_hf_none hnone (z.startPc, z.endPc, z.handlerPc, z.catchType) (by rw [← hexc]; exact List.mem_map.mpr ⟨z, hz, rfl⟩))) hce hcv hcl (fun t9 ht9 hvm => ?_) hS1.2.2 (by omega) (by omega)
      refine ⟨⟨x, q9 ++ q2, ws2, hk, hx3, hEn, ?_⟩, hS1.F ht9⟩
      rw [ht9, ← List.append_assoc]
      exact hWd
    next hp hsome =>
      split at hres
      next k npc hhs =>
        obtain ⟨r, hr2, rfl⟩ := Option.map_eq_some_iff.mp hres
        have hc2 : cells + (a.2.2.2.1 + r.2.2.2.1) ≤ mc := hc1
        have hs2 : slots + (a.2.2.2.2.1 + r.2.2.2.2.1) ≤ ms := hs1
        have hf2 : max (a.2.2.2.2.2.1 + 1) r.2.2.2.2.2.1 ≤ R.frames := hfr
        have hl2 : max (8 + (re_nl G y' + 11) + a.2.2.2.2.2.2) r.2.2.2.2.2.2 ≤ R.locals := hlo
        obtain ⟨pre, z4, suf, e1, e2, e3, e4, e5⟩ := re_hf_some hsome
        rw [e1] at hexc
        obtain ⟨T1, T2, f1, f2, f3⟩ := List.map_eq_append_iff.mp hexc
        obtain ⟨z, T3, f4, f5, f6⟩ := List.map_eq_cons_iff.mp f3
        subst f4
        subst f5
        obtain ⟨k1, k2, k3, k4⟩ := o15 _ _ _ e4
        refine vx_catch (own := (re_yn N y).cls) (name := re_xn N x) hown T1 z T3 f1 (fun w hw => hpass w (e2 _ (by rw [← f2]; exact List.mem_map.mpr ⟨w, hw, rfl⟩))) (by simp only [covers, Bool.and_eq_true, decide_eq_true_eq]; exact e3) k2 (hBin _ k3) (by rw [hEn]; exact va_Nw.use rfl (hTW _ k4).2) hce hcv hcl ?_
        have e5 : hp = z.handlerPc := e5
        rw [← e5]
        have hfin : ∀ (ls9 : Array Slot), lv_has ls9 (re_nl G y) ((k, Value.ref q) :: lc.filter (fun q => !(q.1 == k) && !(q.1 + 1 == k && q.2.category == 2))) → W p l e R s m args below meth c H1 locs1 (cells + a.2.2.2.1) (slots + a.2.2.2.2.1) (vx_MQ below (re_Q V N D cA B0 ad0 r.1 r.2.1 r.2.2.1) (re_XQ V N D cA B0 ad0 r.1 r.2.2.1) args s mc ms (fun q => B0 ≤ q)) (F0 m npc ls9 []) := fun ls9 hl9 =>
          hJ y npc _ _ _ r hr2 p e R s m args below meth c F H1 locs1 _ _ ls9 (lc.filter (fun q => !(q.1 == k) && !(q.1 + 1 == k && q.2.category == 2))) [] ad0 (q9 ++ q2) ws2 ⟨hl9.1, hl9.2.1, fun q hq => hl9.2.2 q (List.mem_cons_of_mem _ hq)⟩ (by rw [← List.append_assoc]; exact re_rl_filter (fun j => !(j == k) && !(j + 1 == k && re_c2 lv j)) _ (fun j u w9 z1 z2 z3 => by dsimp only at z3 ⊢; rw [z2, ← re_c2_some z1]; exact z3) (re_rl_up q2 rl)) trivial (by rw [← List.append_assoc]; exact hWd) hS1 mc ms (by omega) (by omega) hmc hms (by omega) (by omega)
        unfold re_hs at hhs
        split at hhs
        next k9 hk9 =>
          split at hhs
          next hkl =>
            cases hhs
            obtain ⟨len, hdg, hlen⟩ := o1 _ _ _ hk9
            have hdg' : decode (re_yb N y) hp = .ok (.astore_n k9, 1) := hlen.elim (fun q => absurd q (by simp [re_len])) (fun q => by rw [hdg, q]; rfl)
            exact lv_astore_n hx hb hdg' rfl hl hkl rfl hfin
          next => cases hhs
        next k9 hk9 =>
          split at hhs
          next hkl =>
            cases hhs
            obtain ⟨len, hdg, hlen⟩ := o1 _ _ _ hk9
            have hdg' : decode (re_yb N y) hp = .ok (.astore k, 2) := hlen.elim (fun q => absurd q (by simp [re_len])) (fun q => by rw [hdg, q]; rfl)
            exact lv_astore hx hb hdg' hl hkl rfl hfin
          next => cases hhs
        next => cases hhs
      next => cases hres
    next => cases hres
end REM
