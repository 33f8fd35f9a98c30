/-! Members of the library that the walk knows, and a call through an interface. -/
theorem re_set_same {ws : va_W} {i : Nat} {x : Nat × va_E} (h : ws[i]? = some x) : ws.set i x = ws := by
  apply List.ext_getElem?
  intro k
  rcases Nat.decEq i k with hne | rfl
  · rw [List.getElem?_set_ne hne]
  · rw [List.getElem?_set_self (List.getElem?_eq_some_iff.mp h).1, h]
theorem re_cpy0 {α : Type} (f g : Nat → α) (a b : Nat) : va_cpy f g a b 0 = g := by
  funext k
  unfold va_cpy
  rw [if_neg (by omega)]
section REK
variable {V : re_V} {O : re_K} {p : Program} {l : Launch} {e : Env} {R : Room} {s : State} {m : MethodId} {args : Array Value} {below : List Frame} {meth : Method} {c : Code} {H : Heap} {locs : List Loc} {cells slots : Nat} {Q : State → Prop} {pc : Nat} {ls : Array Slot}
variable {N : re_N} {G : re_G} {D : va_G} {tys : List (ClassId × FieldType)} {cA : Nat → ClassId} {B0 y : Nat}
theorem re_jdk_ok (hG : re_ok N G) (hJD : re_okJ N G) (hE : ∀ j, j < re_nE G → tys[j]? = some (cA j, re_E N j)) (F : re_Fr V N G D tys B0 y p s m args meth c) {lc : List (Nat × Value)} (hl : lv_has ls (re_nl G y) lc) {ins : Instr} {len : Nat} {st sc : List Value} {h : re_H} {ws : va_W} {ad : List Nat} {q : Nat × List Value × Nat × Nat}
    (hdg0 : decode (re_yb N y) pc = .ok (ins, len)) (hlen : re_len ins = 0 ∨ len = re_len ins) (hq : re_jdk (re_nE G) (re_jd G y) pc st h ins = some q) (rs : re_rs V ad st sc) (hW : re_Wd V N D cA B0 ad h ws H) (hS : va_S (fun q => B0 ≤ q) s.heap H locs)
    (hfr : q.2.2.1 ≤ R.frames) (hlo : q.2.2.2 ≤ R.locals) (hc1 : cells ≤ R.cells) (hs1 : slots ≤ R.slots)
    (kk : ∀ (H1 : Heap) (locs1 : List Loc) (ws' : va_W) (sc' : List Value), re_Wd V N D cA B0 ad h ws' H1 → va_S (fun q => B0 ≤ q) s.heap H1 locs1 → re_rs V ad q.2.1 sc' → W p l e R s m args below meth c H1 locs1 cells slots Q (F0 m q.1 ls sc')) :
    W p l e R s m args below meth c H locs cells slots Q (F0 m pc ls sc) := by
  obtain ⟨hx, hb, hml, hr, hown, hts, hlocks, hname, hexc, hK, hZ1, hZ2, hSt, hB0, hAO, hTW, hX1, hX2, hX3, hj1, hj2, hj3, hj4, hj5, hj6⟩ := id F
  obtain ⟨o1, o2, o3, ⟨o4a, o4b, o4c, o4d, o4e⟩, o5, o6, o7, o8, o9, ⟨o10a, o10b, o10c⟩, o11, o12, o13, o14, o15⟩ := id hG
  have hBin : ∀ w ∈ re_B N, w.before args s = true := fun w hw => hts w (List.mem_cons_of_mem _ hw)
  have hml9 : c.maxLocals = ls.size := hml.trans hl.1.symm
  have hcats : ∀ {r sr : List Value}, re_rs V ad r sr → re_cat r ≤ 8 → (sr.map fun v => v.category).sum ≤ 8 := fun h1 h2 => by
    have := re_cat_c h1
    unfold re_cat at this h2
    omega
  cases ins
  case getstatic idx =>
    simp only [re_jdk] at hq
    have hdg : decode (re_yb N y) pc = .ok (.getstatic idx, 3) := hlen.elim (fun q => absurd q (by simp [re_len])) (fun q => by rw [hdg0, q]; rfl)
    split at hq
    next k9 hj =>
      cases hq
      exact va_gets hx hb hj1 hS hown (hBin _ ((hJD _ _ _ _ hj).1 rfl)) (fun _ z => z) hdg (kk _ _ _ _ hW hS ⟨rfl, rs⟩)
    next => cases hq
  case ldc idx =>
    simp only [re_jdk] at hq
    have hdg : decode (re_yb N y) pc = .ok (.ldc idx, 2) := hlen.elim (fun q => absurd q (by simp [re_len])) (fun q => by rw [hdg0, q]; rfl)
    split at hq
    next k9 hj =>
      cases hq
      exact va_ldcM hx hb hown (hBin _ ((hJD _ _ _ _ hj).2.2.2.2.1 rfl)) hj4 hdg (kk _ _ _ _ hW hS ⟨rfl, rs⟩)
    next => cases hq
  case arraylength =>
    simp only [re_jdk] at hq
    have hdg : decode (re_yb N y) pc = .ok (.arraylength, 1) := hlen.elim (fun q => absurd q (by simp [re_len])) (fun q => by rw [hdg0, q]; rfl)
    split at hq
    next r =>
      cases hq
      obtain ⟨sr, rfl, rs1⟩ := re_rs_x rs
      exact va_tlen hx hb hj2 hS (v := 0) (by decide) hdg (kk _ _ _ _ hW hS ⟨rfl, rs1⟩)
    next => cases hq
  case invokestatic idx =>
    simp only [re_jdk] at hq
    have hdg : decode (re_yb N y) pc = .ok (.invokestatic idx, 3) := hlen.elim (fun q => absurd q (by simp [re_len])) (fun q => by rw [hdg0, q]; rfl)
    split at hq
    next k9 x y9 r hj =>
      split at hq
      next hcat =>
        cases hq
        obtain ⟨w1, w2, w3, w4⟩ := (hJD _ _ _ _ hj).2.1 rfl
        obtain ⟨s1, rfl, rs1⟩ := re_rs_i rs
        obtain ⟨s2, rfl, rs2⟩ := re_rs_i rs1
        have hc9 := hcats rs2 hcat
        exact va_mmax hx hb hml9 hown (hBin _ w1) (hBin _ w2) (hBin _ w3) (hBin _ w4) hfr (by have : 21 ≤ R.locals := hlo; omega) hc1 hs1 hdg (kk _ _ _ _ hW hS ⟨rfl, rs2⟩)
      next => cases hq
    next k9 x y9 r hj =>
      split at hq
      next hcat =>
        cases hq
        obtain ⟨w1, w2, w3, w4⟩ := (hJD _ _ _ _ hj).2.2.1 rfl
        obtain ⟨s1, rfl, rs1⟩ := re_rs_i rs
        obtain ⟨s2, rfl, rs2⟩ := re_rs_i rs1
        have hc9 := hcats rs2 hcat
        exact va_mmin hx hb hml9 hown (hBin _ w1) (hBin _ w2) (hBin _ w3) (hBin _ w4) hfr (by have : 21 ≤ R.locals := hlo; omega) hc1 hs1 hdg (kk _ _ _ _ hW hS ⟨rfl, rs2⟩)
      next => cases hq
    next k9 n dp j sp r hj =>
      split at hq
      next t vs hi =>
        split at hq
        next hcond =>
          obtain ⟨⟨rfl, rfl, rfl⟩, hcat, ht1, ht2⟩ := hcond
          cases hq
          obtain ⟨w1, w2, w3, w4⟩ := (hJD _ _ _ _ hj).2.2.2.2.2.1 rfl
          obtain ⟨s1, rfl, rs1⟩ := re_rs_i rs
          obtain ⟨s2, rfl, rs2⟩ := re_rs_i rs1
          obtain ⟨a9, s3, rfl, ha9, rs3⟩ := re_rs_r rs2
          obtain ⟨s4, rfl, rs4⟩ := re_rs_i rs3
          obtain ⟨s5, rfl, rs5⟩ := re_rs_x rs4
          have hc9 := hcats rs5 hcat
          obtain ⟨rw0, hP, hD⟩ := id hW
          obtain ⟨b, e9, k1, k2, k3⟩ := rw0.2.2.1 j _ hi
          cases ha9.symm.trans k1
          obtain ⟨jt, rfl⟩ : ∃ jt, t = 100 + jt := ⟨t - 100, by omega⟩
          obtain ⟨x9, rfl, hA⟩ := re_rE_arr k3
          obtain ⟨nm, hnm⟩ := o4e jt (by omega) (by omega)
          rw [hnm] at hA
          obtain ⟨g, rfl, -⟩ := hA
          have hnw : nativeFrameWords "java/lang/System" "arraycopy" 5 ≤ 8 := by decide
          refine va_copyg hx hb hml9 hown (hBin _ w1) (hBin _ w2) (hBin _ w3) (hBin _ w4) hK hP hD hS j jt hj2 k2 (by rw [← hnm]; exact hE jt (by omega)) (by decide) (by decide) (by decide) (Nat.le_of_eq rfl) (Nat.zero_le _) hfr (by have : 40 ≤ R.locals := hlo; omega) hdg (fun H1 locs1 hP1 hD1 hS1 => ?_)
          rw [show (0 : Int32).toNatClampNeg = 0 by decide, re_cpy0, re_set_same k2] at hP1 hD1
          exact kk H1 locs1 ws _ ⟨rw0, hP1, hD1⟩ hS1 rs5
        next => cases hq
      next => cases hq
    next => cases hq
  case invokevirtual idx =>
    simp only [re_jdk] at hq
    have hdg : decode (re_yb N y) pc = .ok (.invokevirtual idx, 3) := hlen.elim (fun q => absurd q (by simp [re_len])) (fun q => by rw [hdg0, q]; rfl)
    split at hq
    next k9 r hj =>
      split at hq
      next hcat =>
        cases hq
        obtain ⟨w1, w2, w3, w4⟩ := (hJD _ _ _ _ hj).2.2.2.1 rfl
        obtain ⟨sr, rfl, rs1⟩ := re_rs_x rs
        have hc9 := hcats rs1 hcat
        exact va_getC hx hb hml9 hown (hBin _ w1) hj6.use (hBin _ w2) (hBin _ w3) (hBin _ w4) hj4 (va_Orecv hj3 hS) hfr (by have : 22 ≤ R.locals := hlo; omega) hdg (kk _ _ _ _ hW hS ⟨rfl, rs1⟩)
      next => cases hq
    next => cases hq
  all_goals (exact absurd hq (by simp [re_jdk]))
theorem re_run5 {Qa : State → Outcome → State → Prop} {XC : String → State → State → Prop} {free : Addr → Prop} {mc ms : Nat} {st0 rest : List Value} {A0 : Nat → Prop} (hr : vx_Run5 p l e R s m args below meth c H locs cells slots mc ms (F0 m pc ls st0) rest Qa XC free) (hS : va_S A0 s.heap H locs) (hf : ∀ q, free q → A0 q)
    (hQ : ∀ st v t, Qa st (.returned v) t → va_F A0 st t) (hX : ∀ En st t, XC En st t → False)
    (kk : ∀ (v : Option Value) (st₀ t : State) (H1 : Heap) (locs1 : List Loc), t.heap = H1 → Qa st₀ (.returned v) t → va_S A0 s.heap H1 locs1 → W p l e R s m args below meth c H1 locs1 (cells + mc) (slots + ms) Q (F0 m (pc + 5) ls (v.toList ++ rest))) :
    W p l e R s m args below meth c H locs cells slots Q (F0 m pc ls st0) := by
  intro T hT X
  rcases hr T hT X with ⟨v, st₀, t, T', L, h0, X', hL, e1, e2, hq, st⟩ | ⟨q, st₀, t, T', L, En, ce, h0, X', hL, e1, e2, hq, hce, hcv, hcl, st⟩
  · obtain ⟨k1, k2, k3⟩ := vx_keep h0 e1 hS (fun _ _ z => z) hf hL (hQ _ _ _ hq)
    obtain ⟨t2, a1, b1⟩ := kk v st₀ t T'.heap (locs ++ L) e1.symm hq k3 T' rfl X'
    exact ⟨t2, st t2 a1, b1⟩
  · exact (hX _ _ _ hq).elim
theorem re_ifc_ok {n : Nat} (hJ : re_J V O N G l D tys cA B0 n) (hG : re_ok N G) (hJD : re_okJ N G) (F : re_Fr V N G D tys B0 y p s m args meth c) {y' i t : Nat} {vs : List Value} {a res : re_Res} {ins : Instr} {len : Nat} {lv lc : List (Nat × Value)} {r sc : List Value} {ad0 q9 : List Nat} {h : re_H} {ws : va_W} {mc ms : Nat}
    (hif : re_ifc (re_jd G y) ins = some y') (hdg0 : decode (re_yb N y) pc = .ok (ins, len)) (hlen : re_len ins = 0 ∨ len = re_len ins) (hcond : re_cat r ≤ 8 ∧ re_cat [.ref i] ≤ re_nl G y') (hi : re_hg h i = some (t, vs)) (htag : t = re_ct G y') (ha : re_go G O n y' 0 (lv_args 0 [.ref i]) [] h = some a) (ha4 : a.1 < 4)
    (hgo : (re_go G O n y (pc + 5) lv (re_vl a r) a.2.2.1).map (re_aft (re_nl G y') a) = some res)
    (hl : lv_has ls (re_nl G y) lc) (rl : re_rl V (ad0 ++ q9) lv lc) (rs : re_rs V (ad0 ++ q9) (.ref i :: r) sc) (hW : re_Wd V N D cA B0 (ad0 ++ q9) h ws H) (hS : va_S (fun q => B0 ≤ q) s.heap H locs)
    (hc1 : cells + res.2.2.2.1 ≤ mc) (hs1 : slots + res.2.2.2.2.1 ≤ ms) (hmc : mc ≤ R.cells) (hms : ms ≤ R.slots) (hfr : res.2.2.2.2.2.1 ≤ R.frames) (hlo : res.2.2.2.2.2.2 ≤ R.locals) :
    W p l e R s m args below meth c H locs cells slots (vx_MQ below (re_Q V N D cA B0 ad0 res.1 res.2.1 res.2.2.1) (re_XQ V N D cA B0 ad0 res.1 res.2.2.1) args s mc ms (fun q => B0 ≤ q)) (F0 m pc ls sc) := by
  obtain ⟨hx, hb, hml, hr', hown, hts, hlocks, hname, hexc, hAt⟩ := id F
  obtain ⟨hK, hZ1, hZ2, hSt, hB0, hAO, hTW, hX1, hX2, hX3, hj1, hj2, hj3, hj4, hj5, hj6⟩ := id hAt
  obtain ⟨o1, o2, o3, o4, o5, o6, o7, o8, o9, o10, o11, o12, o13, o14, o15⟩ := id hG
  have hBin : ∀ w ∈ re_B N, w.before args s = true := fun w hw => hts w (List.mem_cons_of_mem _ hw)
  obtain ⟨idx, cnt, rfl, hj⟩ : ∃ idx cnt, ins = .invokeinterface idx cnt ∧ re_jd G y idx = some (6, y') := by
    cases ins
    case invokeinterface idx cnt =>
      simp only [re_ifc] at hif
      split at hif
      next z => cases hif; exact ⟨_, _, rfl, z⟩
      next => cases hif
    all_goals (exact absurd hif (by simp [re_ifc]))
  have hdg' : decode (re_yb N y) pc = .ok (.invokeinterface idx cnt, 5) := hlen.elim (fun q => absurd q (by simp [re_len])) (fun q => by rw [hdg0, q]; rfl)
  obtain ⟨w1, w2, w3, w4, w5, hM, hhh, rr, hrr, hrn⟩ := (hJD _ _ _ _ hj).2.2.2.2.2.2 rfl
  obtain ⟨b, rC, rfl, hb9, rs1⟩ := re_rs_r rs
  obtain ⟨r2, hr2, rfl⟩ := Option.map_eq_some_iff.mp hgo
  have hc2 : cells + (a.2.2.2.1 + r2.2.2.2.1) ≤ mc := hc1
  have hs2 : slots + (a.2.2.2.2.1 + r2.2.2.2.2.1) ≤ ms := hs1
  have hf2 : max (a.2.2.2.2.2.1 + 1) r2.2.2.2.2.2.1 ≤ R.frames := hfr
  have hl2 : max (8 + (re_nl G y' + 11) + a.2.2.2.2.2.2) r2.2.2.2.2.2.2 ≤ R.locals := hlo
  have hMet : vx_Met l (re_yn N y') (re_ws N G y') ({ frames := a.2.2.2.2.2.1, cells := a.2.2.2.1, slots := a.2.2.2.2.1, locals := a.2.2.2.2.2.2 }) (re_Pc V N D tys cA B0 [.ref b] (ad0 ++ q9) h ws) (re_Q V N D cA B0 (ad0 ++ q9) a.1 a.2.1 a.2.2.1) (re_XQ V N D cA B0 (ad0 ++ q9) a.1 a.2.2.1) a.2.2.2.1 a.2.2.2.2.1 (fun q => B0 ≤ q) :=
    re_met hJ hM.2.2.1 ha (ad := ad0 ++ q9) (ws := ws) (asC := [.ref b]) ⟨⟨b, hb9, rfl⟩, trivial⟩ hcond.2
  obtain ⟨b2, e9, k1, k2, k3⟩ := hW.1.2.2.1 i _ hi
  cases hb9.symm.trans k1
  subst htag
  obtain ⟨fs, rfl, -⟩ := re_rE_obj k3 (re_cl_lt o3 hrr)
  have hrecv := va_recv hK hW.2.1 hrr k2
  rw [hrn] at hrecv
  have hat : ClassAt s re_al (D.1 (re_ct G y')) := by
    have h9 := (hK.1 _ _ hrr).2
    rw [hrn] at h9
    exact h9
  have hcat9 : (rC.map fun v => v.category).sum ≤ 8 := by
    have := re_cat_c rs1
    have h9 := hcond.1
    unfold re_cat at this h9
    omega
  have hwe : re_ws N G y' = Cond.code (re_yn N y') (re_yb N y') (re_nl G y') (re_rt G y') :: re_B N := by unfold re_ws re_cw; rw [hhh]
  have hGi : GoodIn (re_ws N G y) (va_wsF (re_yn N y).cls idx re_al re_tcN (re_yn N y') (re_ws N G y')) := by
    intro w hw
    unfold va_wsF at hw
    rcases List.mem_append.mp hw with hw | hw
    · have hB : w ∈ re_B N := by
        simp only [List.mem_cons, List.not_mem_nil, or_false] at hw
        rw [w5] at hw
        rcases hw with rfl | rfl | rfl | rfl
        · exact w1
        · exact w2
        · exact w3
        · exact w4
      exact ⟨List.mem_cons_of_mem _ hB, good_of_word (o13 w hB)⟩
    · exact re_good hG hM w hw
  have hj5' : va_Fw re_al re_tcN (re_yn N y') s := by rw [w5]; exact hj5
  have cw : va_CI R s args (re_yn N y).cls re_al idx re_tcN (re_yn N y') (re_yb N y') (re_nl G y') (re_rt G y') (re_ws N G y') ({ frames := a.2.2.2.2.2.1, cells := a.2.2.2.1, slots := a.2.2.2.2.1, locals := a.2.2.2.2.2.2 }) a.2.2.2.1 a.2.2.2.2.1 0 :=
    va_cwF 0 hts hGi hwe rfl rfl hj5' (by decide +kernel) (by dsimp only; omega)
  have hrun : vx_Run5 p l e R s m args below meth c H locs cells slots a.2.2.2.1 a.2.2.2.2.1 (F0 m pc ls (.ref b :: rC)) rC (re_Q V N D cA B0 (ad0 ++ q9) a.1 a.2.1 a.2.2.1 (Value.ref b :: []).toArray) (re_XQ V N D cA B0 (ad0 ++ q9) a.1 a.2.2.1) (fun q => B0 ≤ q) := vx_runF (As := []) (rest := rC) (g := F0 m pc ls (.ref b :: rC)) hat ⟨hx, hb, hml, hown, hts⟩ hMet cw ⟨re_blind, hrecv, fun U hU hW9 => ⟨rfl, re_K_moved hAt hS hU hW9, by rw [hU]; exact hW⟩⟩ rfl rfl hl.1 rfl (lv_room hcat9) hdg' (⟨by omega, by omega⟩ : cells + a.2.2.2.1 ≤ R.cells ∧ slots + a.2.2.2.2.1 ≤ R.slots)
  refine re_run5 hrun hS (fun _ z => z) (fun st v t hq => hq.2) (fun En st t hq => ?_) (fun v st₀ t H1 locs1 ht hq hS1 => ?_)
  · obtain ⟨⟨x, q2, ws2, hk, -⟩, -⟩ := hq
    omega
  · obtain ⟨⟨w, q2, ws2, hw, hk, hk0, hk1, hWd⟩, -⟩ := hq
    cases hw
    rw [ht] at hWd
    have hst : re_rs V (ad0 ++ (q9 ++ q2)) (re_vl a r) (v.toList ++ rC) := by
      rw [← List.append_assoc]
      unfold re_vl
      split
      · next h0 => rw [hk0 h0]; exact re_rs_up q2 rs1
      · next h0 =>
        obtain ⟨w', hw', hv'⟩ := hk1 h0
        rw [hw']
        exact ⟨hv', re_rs_up q2 rs1⟩
    exact hJ y (pc + 5) lv _ _ r2 hr2 p e R s m args below meth c F H1 locs1 _ _ ls lc _ ad0 (q9 ++ q2) ws2 hl (by rw [← List.append_assoc]; exact re_rl_up q2 rl) hst (by rw [← List.append_assoc]; exact hWd) hS1 mc ms (by omega) (by omega) hmc hms (by omega) (by omega)
end REK
