/-! The walk is what the machine does. -/
section REM
variable {V : re_V} {O : re_O} {p : Program} {l : Launch} {e : Env} {R : Room} {s : State} {m : MethodId} {args : Array Value} {below : List Frame} {meth : Method} {c : Code} {H : Heap} {locs : List Loc} {cells slots : Nat} {Q : State → Prop} {pc : Nat} {ls : Array Slot}
variable {N : re_N} {G : re_G} {D : va_G} {tys : List (ClassId × FieldType)} {cA : Nat → ClassId} {B0 y : Nat}
theorem re_Wd_kept {ad : List Nat} {h : re_H} {ws : va_W} {H1 : Heap} (hW : re_Wd V N D cA B0 ad h ws H) (hk : ∀ q : Nat, q < H.size → H1[q]? = H[q]?) : re_Wd V N D cA B0 ad h ws H1 :=
  ⟨hW.1, fun k q hq => (hW.2.1 k q hq).kept (hk _ (hW.2.1 k q hq).lt), hW.2.2⟩
theorem re_throw_ok (hl : l.stackTraces = false) (hG : re_ok N G) (F : re_Fr N G D tys B0 y p s m args meth c) {x : Nat} {st sc : List Value} {h : re_H} {ws : va_W} {ad0 q9 : List Nat} {mc ms nL : Nat} {lc : List (Nat × Value)} {v : Value}
    (hx9 : re_tw G y pc = some x) (hls : lv_has ls (re_nl G y) lc) (rs : re_rs V (ad0 ++ q9) st sc) (hW : re_Wd V N D cA B0 (ad0 ++ q9) h ws H) (hS : va_S (fun q => B0 ≤ q) s.heap H locs)
    (hc1 : cells + 1 ≤ mc) (hs1 : slots + 6 ≤ ms) (hmc : mc ≤ R.cells) (hms : ms ≤ R.slots) (hfr : 6 ≤ R.frames) (hlo : re_cat st + 82 ≤ R.locals) :
    W p l e R s m args below meth c H locs cells slots (vx_MQ below (re_Q V N D cA B0 ad0 (4 + x) v h) (re_XQ V N D cA B0 ad0 (4 + x) h) args s mc ms (fun q => B0 ≤ q)) (F0 m pc ls sc) := by
  obtain ⟨hx, hb, hml, hr, hown, hts, hlocks, hname, hexc, hK, hZ1, hZ2, hSt, hB0, hAO, hTW⟩ := id F
  obtain ⟨o1, o2, o3, o4, o5, o6, o7, o8, o9, o10, o11, o12, o13, o14⟩ := id hG
  have hBin : ∀ w ∈ re_B N, w.before args s = true := fun w hw => hts w (List.mem_cons_of_mem _ hw)
  obtain ⟨ik, is, ic, text, t1, t2, t3, t4, t5, t6, t7, t8, t9⟩ := o12 _ _ _ hx9
  obtain ⟨sa, hsa⟩ := hSt _ t4
  have hat : ∀ w ∈ vx_atS (re_yn N y).cls ic (re_xn N x) re_xs, w.before args s = true := fun w hw => by
    rcases t5 w hw with h1 | h1
    · exact hBin w h1
    · obtain ⟨q1, q2⟩ := hTW w h1
      rcases q1 with ⟨C, T, rfl⟩ | ⟨a, i, x, z, rfl⟩ | ⟨x, rfl⟩
      · exact va_Nw.use rfl q2
      · exact va_Nw.use rfl q2
      · exact va_Nw.use rfl q2
  have hcats : (sc.map fun v => v.category).sum + 82 ≤ R.locals := by
    have := re_cat_c rs
    unfold re_cat at this hlo
    omega
  have hend : ∀ t : State, s.vm.Alike t.vm → H.size ≤ t.heap.size → (∀ q : Nat, q < H.size → t.heap[q]? = H[q]?) → re_XQ V N D cA B0 ad0 (4 + x) h (re_xn N x) s t := fun t hvm hz hk => by
    refine ⟨⟨x, q9, ws, rfl, rfl, re_Wd_kept hW hk⟩, Nat.le_trans hS.1 hz, fun q h1 h2 => ?_⟩
    rw [hk q (Nat.lt_of_lt_of_le h1 hS.1)]
    exact hS.2.1 q h1 h2
  rcases t9 with ⟨t9, t10, t11⟩ | ⟨t9, t10, t11⟩
  · exact vx_throwS (A := fun q => B0 ≤ q) hx hb hl (names := re_xs) hown t1 (by decide +kernel) (hBin _ t2) (hBin _ t3) hsa hat t6 hZ1 hZ2 hS (by rw [hls.1, hml]) t7 t8 t9 t10 t11 (fun z hz => (hexc z hz).elim) (show 5 < R.frames by omega) hcats (by omega) (by omega) hlocks hend hS.2.2 hc1 hs1
  · exact vx_throwSW (A := fun q => B0 ≤ q) hx hb hl (names := re_xs) hown t1 (by decide +kernel) (hBin _ t2) (hBin _ t3) hsa hat t6 hZ1 hZ2 hS (by rw [hls.1, hml]) t7 t8 t9 t10 t11 (fun z hz => (hexc z hz).elim) (show 5 < R.frames by omega) hcats (by omega) (by omega) hlocks hend hS.2.2 hc1 hs1
/-- a method, out of the walk of its body -/
theorem re_met {n : Nat} (hJ : re_J V O N G l D tys cA B0 n) {y : Nat} {as asC : List Value} {h : re_H} {res : re_Res} (hy : plainName (re_yn N y).cls = true) (hgo : re_go G O n y 0 (lv_args 0 as) [] h = some res) {ad : List Nat} {ws : va_W} (rs : re_rs V ad as asC) (hn : re_cat as ≤ re_nl G y) :
    vx_Met l (re_yn N y) (re_ws N G y) ({ frames := res.2.2.2.2.2.1, cells := res.2.2.2.1, slots := res.2.2.2.2.1, locals := res.2.2.2.2.2.2 }) (re_Pc V N D tys cA B0 asC ad h ws) (re_Q V N D cA B0 ad res.1 res.2.1 res.2.2.1) (re_XQ V N D cA B0 ad res.1 res.2.2.1) res.2.2.2.1 res.2.2.2.2.1 (fun q => B0 ≤ q) := by
  refine vx_ofW (cc := re_yb N y) (maxL := re_nl G y) (ret := re_rt G y) hy rfl ?_
  intro p e s m args below meth c s₁ B hml hexc hPc
  obtain ⟨rfl, hAt, hWd⟩ := hPc
  have hts := atoms_spec (ws := re_ws N G y) B.pre
  have hown : s.vm.findClass (re_yn N y).cls = some m.cls := findClass_of_methodNamed B.named
  have hnm : meth.name = (re_yn N y).name := (name_of_methodNamed B.named B.method).1
  have hl := lv_entry asC (n := re_nl G y) (Nat.le_trans (re_sl asC) (by rw [re_cat_c rs]; exact hn))
  rw [lg_entry_eq]
  generalize (lg_sl asC ++ List.replicate (re_nl G y - (lg_sl asC).length) Slot.unset).toArray = ls at hl ⊢
  refine hJ y 0 _ [] h res hgo p e _ s m _ below meth c ⟨B.exec, B.bytes, hml, B.returns, hown, hts, B.notSynchronized, hnm, hexc, hAt⟩ s.heap [] 0 0 ls _ [] ad [] ws hl (by rw [List.append_nil]; exact re_args 0 rs) trivial (by rw [List.append_nil]; exact hWd) va_S.rf _ _ (by omega) (by omega) (Nat.le_refl _) (Nat.le_refl _) (Nat.le_refl _) (Nat.le_refl _)
theorem re_good (hG : re_ok N G) {y y' na : Nat} (hM : re_okM N G y' na) : GoodIn (re_ws N G y) (re_ws N G y') := by
  obtain ⟨o1, o2, o3, o4, o5, o6, o7, o8, o9, o10, o11, o12, o13, o14⟩ := id hG
  intro w hw
  have hB : w ∈ re_B N := by
    rcases List.mem_cons.mp hw with rfl | h1
    · exact hM.1
    · exact h1
  exact ⟨List.mem_cons_of_mem _ hB, good_of_word (o13 w hB)⟩
/-- behind a call: the rest of the walk, or the throw goes on -/
theorem re_call_ok {n : Nat} (hJ : re_J V O N G l D tys cA B0 n) (hG : re_ok N G) (F : re_Fr N G D tys B0 y p s m args meth c) {y' : Nat} {a res : re_Res} {lv lc : List (Nat × Value)} {st0 rest restC : List Value} {ad0 q9 : List Nat} {mc ms : Nat} {ar : Array Value}
    (hr : vx_Run p l e R s m args below meth c H locs cells slots a.2.2.2.1 a.2.2.2.2.1 (F0 m pc ls st0) restC (re_Q V N D cA B0 (ad0 ++ q9) a.1 a.2.1 a.2.2.1 ar) (re_XQ V N D cA B0 (ad0 ++ q9) a.1 a.2.2.1) (fun q => B0 ≤ q))
    (hl : lv_has ls (re_nl G y) lc) (rl : re_rl V (ad0 ++ q9) lv lc) (rs : re_rs V (ad0 ++ q9) rest restC) (hS : va_S (fun q => B0 ≤ q) s.heap H locs)
    (hres : (if a.1 < 4 then (re_go G O n y (pc + 3) lv (re_vl a rest) a.2.2.1).map (re_aft (re_nl G y') a) else some (re_aft (re_nl G y') a (a.1, a.2.1, a.2.2.1, 0, 0, 0, 0))) = some res)
    (hc1 : cells + res.2.2.2.1 ≤ mc) (hs1 : slots + res.2.2.2.2.1 ≤ ms) (hmc : mc ≤ R.cells) (hms : ms ≤ R.slots) (hfr : res.2.2.2.2.2.1 ≤ R.frames) (hlo : res.2.2.2.2.2.2 ≤ R.locals) :
    W p l e R s m args below meth c H locs cells slots (vx_MQ below (re_Q V N D cA B0 ad0 res.1 res.2.1 res.2.2.1) (re_XQ V N D cA B0 ad0 res.1 res.2.2.1) args s mc ms (fun q => B0 ≤ q)) (F0 m pc ls st0) := by
  obtain ⟨hx, hb, hml, hr', hown, hts, hlocks, hname, hexc, hAt⟩ := id F
  refine re_run hr hS (fun _ h => h) (fun st v t hq => hq.2) (fun En st t hq => hq.2) (fun v st₀ t H1 locs1 ht hq hS1 => ?_) (fun En ce q st₀ t H1 locs1 ht hq hS1 hce hcv hcl => ?_)
  · obtain ⟨⟨w, q2, ws2, hw, hk, hk0, hk1, hWd⟩, -⟩ := hq
    cases hw
    rw [if_pos hk] at hres
    obtain ⟨r, hr2, rfl⟩ := Option.map_eq_some_iff.mp hres
    rw [ht] at hWd
    have hst : re_rs V (ad0 ++ (q9 ++ q2)) (re_vl a rest) (v.toList ++ restC) := by
      rw [← List.append_assoc]
      unfold re_vl
      split
      · next h0 => rw [hk0 h0]; exact re_rs_up q2 rs
      · next h0 =>
        obtain ⟨w', hw', hv'⟩ := hk1 h0
        rw [hw']
        exact ⟨hv', re_rs_up q2 rs⟩
    have hc2 : cells + (a.2.2.2.1 + r.2.2.2.1) ≤ mc := hc1
    have hs2 : slots + (a.2.2.2.2.1 + r.2.2.2.2.1) ≤ ms := hs1
    have hf2 : max (a.2.2.2.2.2.1 + 1) r.2.2.2.2.2.1 ≤ R.frames := hfr
    have hl2 : max (8 + (re_nl G y' + 11) + a.2.2.2.2.2.2) r.2.2.2.2.2.2 ≤ R.locals := hlo
    exact hJ y (pc + 3) lv _ _ r hr2 p e R s m args below meth c F H1 locs1 _ _ ls lc _ ad0 (q9 ++ q2) ws2 hl (by rw [← List.append_assoc]; exact re_rl_up q2 rl) hst (by rw [← List.append_assoc]; exact hWd) hS1 mc ms (by omega) (by omega) hmc hms (by omega) (by omega)
  · obtain ⟨⟨x, q2, ws2, hk, hEn, hWd⟩, -⟩ := hq
    rw [if_neg (by omega)] at hres
    cases hres
    rw [ht] at hWd
    have hc2 : cells + (a.2.2.2.1 + 0) ≤ mc := hc1
    have hs2 : slots + (a.2.2.2.2.1 + 0) ≤ ms := hs1
    refine vx_out (fun z hz => (hexc z hz).elim) hlocks hce hcv hcl (fun t9 ht9 hvm => ?_) hS1.2.2 (by omega) (by omega)
    refine ⟨⟨x, q9 ++ q2, ws2, hk, hEn, ?_⟩, hS1.F ht9⟩
    rw [ht9, ← List.append_assoc]
    exact hWd
end REM
