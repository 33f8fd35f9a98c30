/-! The walk's pieces: what makes cells, returns, throws, calls. -/
theorem re_RA_eq {U : State} {a b : ClassId} {t : FieldType} (h1 : va_RA U a t) (h2 : va_RA U b t) : a = b := by
  cases t with
  | object C =>
    obtain ⟨-, -, -, -, -, e1⟩ := h1
    obtain ⟨-, -, -, -, -, e2⟩ := h2
    exact Option.some.inj (e1.symm.trans e2)
  | _ => exact Option.some.inj ((show U.vm.findClass _ = some a from h1).symm.trans h2)
theorem re_tys_eq {D : va_G} {cl : List vw_C} {tys : List (ClassId × FieldType)} {U : State} {a b : ClassId} {t : FieldType} {j : Nat} (hK : va_K D cl (tys ++ [(a, t)]) U) (hj : tys[j]? = some (b, t)) : a = b := by
  have hlt := (List.getElem?_eq_some_iff.mp hj).1
  have h1 := (hK.2 tys.length (a, t) (by rw [List.getElem?_append_right (Nat.le_refl _), Nat.sub_self]; rfl)).2
  have h2 := (hK.2 j (b, t) (by rw [List.getElem?_append_left hlt]; exact hj)).2
  exact re_RA_eq h1 h2
theorem re_rs_def {V : re_V} {ad : List Nat} : ∀ {vs : List Value}, (∀ v ∈ vs, v = .null ∨ v = .int 0 ∨ v = .long 0) → re_rs V ad vs vs
  | [], _ => trivial
  | v :: vs, h => ⟨by rcases h v List.mem_cons_self with rfl | rfl | rfl <;> exact rfl, re_rs_def (fun w hw => h w (List.mem_cons_of_mem _ hw))⟩
theorem re_rep_get {v : Value} {n i : Nat} {w : Value} (h : (List.replicate n v)[i]? = some w) : w = v := by
  rw [List.getElem?_replicate] at h
  split at h
  · exact (Option.some.inj h).symm
  · cases h
section REX
variable {V : re_V} {p : Program} {l : Launch} {e : Env} {R : Room} {s : State} {m : MethodId} {args : Array Value} {below : List Frame} {meth : Method} {c : Code} {H : Heap} {locs : List Loc} {cells slots : Nat} {Q : State → Prop} {pc : Nat} {ls : Array Slot}
variable {N : re_N} {G : re_G} {D : va_G} {tys : List (ClassId × FieldType)} {cA : Nat → ClassId} {B0 y : Nat}
theorem re_mk_ok (hG : re_ok N G) (hE : ∀ j, j < re_nE G → tys[j]? = some (cA j, re_E N j)) (F : re_Fr V N G D tys B0 y p s m args meth c) {ins : Instr} {len : Nat} {st sc : List Value} {h : re_H} {ws : va_W} {ad : List Nat} {q : Nat × List Value × re_C}
    (hdg0 : decode (re_yb N y) pc = .ok (ins, len)) (hlen : re_len ins = 0 ∨ len = re_len ins) (hq : re_mk (re_nw G y) (re_an G y) pc st h.1 ins = some q) (rs : re_rs V ad st sc) (hW : re_Wd V N D cA B0 ad h ws H) (hS : va_S (fun q => B0 ≤ q) s.heap H locs)
    (hc1 : cells + 1 ≤ R.cells) (hs1 : slots + q.2.2.2.length ≤ R.slots)
    (kk : ∀ (a : Nat) (H1 : Heap) (ws' : va_W) (sc' : List Value), re_Wd V N D cA B0 (ad ++ [a]) (re_hq h q.2.2) ws' H1 → va_S (fun q => B0 ≤ q) s.heap H1 locs → re_rs V (ad ++ [a]) q.2.1 sc' → W p l e R s m args below meth c H1 locs (cells + 1) (slots + q.2.2.2.length) Q (F0 m q.1 ls sc')) :
    W p l e R s m args below meth c H locs cells slots Q (F0 m pc ls sc) := by
  obtain ⟨hx, hb, hml, hr, hown, hts, hlocks, hname, hexc, hK, hZ1, hZ2, hSt, hB0, hAO, hTW⟩ := id F
  obtain ⟨o1, o2, o3, ⟨o4a, o4b, o4c, o4d, o4e⟩, o5, o6, o7, o8, o9, ⟨o10a, o10b, o10c⟩, o11, o12, o13, o14, o15⟩ := id hG
  obtain ⟨rw0, hP, hD⟩ := hW
  have hA : ∀ q : Nat, s.heap.size ≤ q → (fun q => B0 ≤ q) q := fun q hq => Nat.le_trans hB0 hq
  have hsz : ad.length = h.1 := rw0.1
  have hnew : ∀ a : Nat, re_rv V (ad ++ [a]) (.ref h.1) (.ref a) := fun a => ⟨a, by rw [List.getElem?_append_right (by omega), hsz, Nat.sub_self]; rfl, rfl⟩
  have hBin : ∀ w ∈ re_B N, w.before args s = true := fun w hw => hts w (List.mem_cons_of_mem _ hw)
  cases ins
  case new idx =>
    simp only [re_mk] at hq
    have hdg : decode (re_yb N y) pc = .ok (.new idx, 3) := hlen.elim (fun q => absurd q (by simp [re_len])) (fun q => by rw [hdg0, q]; rfl)
    split at hq
    next d hd =>
      split at hq
      next hd1 =>
        cases hq
        obtain ⟨⟨C, T, n⟩, k1, k2, k3, k4, k5, k6, k7⟩ := o8 _ _ _ hd hd1
        obtain ⟨hin, ⟨ty, hty⟩, hnm⟩ := o3.2 _ _ k1
        refine va_new (D := D) hx hb hts (fun w hw => List.mem_cons_of_mem _ (hin w hw)) ty hty hown (hBin _ k2) (hBin _ k3) (hBin _ k4) hK hP hD hS hA k1 (fs := d.2) (k7 ty hty) hc1 (by have : d.2.length = n := k5; rw [← this]; exact hs1) hdg (fun a H1 hP1 hD1 hS1 => ?_)
        have e5 : n = d.2.length := Eq.symm k5
        rw [e5]
        exact kk a H1 _ _ ⟨re_rW_push rw0 (Or.inl ⟨hd1, _, rfl, re_rs_def k6⟩), hP1, hD1⟩ hS1 ⟨hnew a, re_rs_up [a] rs⟩
      next => cases hq
    next => cases hq
  case newarray at9 =>
    have hdg : decode (re_yb N y) pc = .ok (.newarray at9, 2) := hlen.elim (fun q => absurd q (by simp [re_len])) (fun q => by rw [hdg0, q]; rfl)
    cases at9
    case int =>
      simp only [re_mk] at hq
      split at hq
      next n r =>
        split at hq
        next hn =>
          cases hq
          obtain ⟨sr, rfl, rs1⟩ := re_rs_i rs
          simp only [List.length_replicate] at hs1 kk
          refine va_newa (atype := .int) hx hb (hBin _ o10a) (ty := .int) rfl hK hP hD hS hA (a0 := (n.toNatClampNeg, .inl (fun _ => 0))) (fun _ => rfl) hn.1 rfl hn.2 hc1 hs1 hdg (fun a cA' H1 hK1 hP1 hD1 hS1 => ?_)
          have ec := re_tys_eq hK1 (show tys[0]? = some (cA 0, .int) by rw [← o4a]; exact hE 0 (by omega))
          subst ec
          exact kk a H1 _ _ ⟨re_rW_push rw0 (Or.inr ⟨0, .inl (fun _ => 0), rfl, by rw [List.length_replicate], by rw [o4a]; exact ⟨_, rfl, fun i v hv => (by rw [re_rep_get hv]; exact rfl)⟩⟩), hP1, hD1⟩ hS1 ⟨hnew a, re_rs_up [a] rs1⟩
        next => cases hq
      next => cases hq
    case long =>
      simp only [re_mk] at hq
      split at hq
      next n r =>
        split at hq
        next hn =>
          cases hq
          obtain ⟨sr, rfl, rs1⟩ := re_rs_i rs
          simp only [List.length_replicate] at hs1 kk
          refine va_newa (atype := .long) hx hb (hBin _ o10b) (ty := .long) rfl hK hP hD hS hA (a0 := (n.toNatClampNeg, .inr (.inl (fun _ => 0)))) (fun _ => rfl) hn.1 rfl hn.2 hc1 hs1 hdg (fun a cA' H1 hK1 hP1 hD1 hS1 => ?_)
          have ec := re_tys_eq hK1 (show tys[1]? = some (cA 1, .long) by rw [← o4b]; exact hE 1 (by omega))
          subst ec
          exact kk a H1 _ _ ⟨re_rW_push rw0 (Or.inr ⟨1, .inr (.inl (fun _ => 0)), rfl, by rw [List.length_replicate], by rw [o4b]; exact ⟨_, rfl, fun i v hv => (by rw [re_rep_get hv]; exact rfl)⟩⟩), hP1, hD1⟩ hS1 ⟨hnew a, re_rs_up [a] rs1⟩
        next => cases hq
      next => cases hq
    case boolean =>
      simp only [re_mk] at hq
      split at hq
      next n r =>
        split at hq
        next hn =>
          cases hq
          obtain ⟨sr, rfl, rs1⟩ := re_rs_i rs
          simp only [List.length_replicate] at hs1 kk
          refine va_newa (atype := .boolean) hx hb (hBin _ o10c) (ty := .boolean) rfl hK hP hD hS hA (a0 := (n.toNatClampNeg, .inl (fun _ => 0))) (fun _ => rfl) hn.1 rfl (show n.toNatClampNeg * 1 ≤ 536870912 by have := hn.2; omega) hc1 hs1 hdg (fun a cA' H1 hK1 hP1 hD1 hS1 => ?_)
          have ec := re_tys_eq hK1 (show tys[2]? = some (cA 2, .boolean) by rw [← o4c]; exact hE 2 (by omega))
          subst ec
          exact kk a H1 _ _ ⟨re_rW_push rw0 (Or.inr ⟨2, .inl (fun _ => 0), rfl, by rw [List.length_replicate], by rw [o4c]; exact ⟨_, rfl, fun i v hv => (by rw [re_rep_get hv]; exact rfl)⟩⟩), hP1, hD1⟩ hS1 ⟨hnew a, re_rs_up [a] rs1⟩
        next => cases hq
      next => cases hq
    all_goals (exact absurd hq (by simp [re_mk]))
  case anewarray idx =>
    simp only [re_mk] at hq
    have hdg : decode (re_yb N y) pc = .ok (.anewarray idx, 3) := hlen.elim (fun q => absurd q (by simp [re_len])) (fun q => by rw [hdg0, q]; rfl)
    split at hq
    next j n r hj =>
      split at hq
      next hn =>
        cases hq
        obtain ⟨j1, j2, C, j3, j4⟩ := o9 _ _ _ hj
        obtain ⟨sr, rfl, rs1⟩ := re_rs_i rs
        simp only [List.length_replicate] at hs1 kk
        refine va_newq (D := D) hx hb hown (hBin _ j4) (hAO j C j3) hK hP hD hS hA hn.1 rfl hn.2 hc1 hs1 hdg (fun a cA' H1 hK1 hP1 hD1 hS1 => ?_)
        have ec := re_tys_eq hK1 (show tys[j]? = some (cA j, .object C) by rw [← j3]; exact hE j j2)
        subst ec
        exact kk a H1 _ _ ⟨re_rW_push rw0 (Or.inr ⟨j, .inr (.inr (.inr (.inr (fun _ => none)))), rfl, by rw [List.length_replicate], by rw [j3]; exact ⟨_, rfl, fun i v hv => by rw [re_rep_get hv]; exact rfl⟩⟩), hP1, hD1⟩ hS1 ⟨hnew a, re_rs_up [a] rs1⟩
      next => cases hq
    next => cases hq
  all_goals (exact absurd hq (by simp [re_mk]))
theorem re_cst_ok (hG : re_ok N G) (F : re_Fr V N G D tys B0 y p s m args meth c) {ins : Instr} {len : Nat} {sc : List Value} {q : Nat × Value}
    (hdg0 : decode (re_yb N y) pc = .ok (ins, len)) (hlen : re_len ins = 0 ∨ len = re_len ins) (hq : re_cst (re_ks G y) pc ins = some q)
    (kk : (∀ (V : re_V) (ad : List Nat), re_rv V ad q.2 q.2) → W p l e R s m args below meth c H locs cells slots Q (F0 m q.1 ls (q.2 :: sc))) :
    W p l e R s m args below meth c H locs cells slots Q (F0 m pc ls sc) := by
  obtain ⟨hx, hb, hml, hr, hown, hts, -⟩ := id F
  obtain ⟨o1, o2, o3, o4, o5, o6, o7, o8, o9, o10, o11, o12, o13, o14, o15⟩ := id hG
  have hBin : ∀ w ∈ re_B N, w.before args s = true := fun w hw => hts w (List.mem_cons_of_mem _ hw)
  cases ins
  case ldc idx =>
    simp only [re_cst] at hq
    have hdg : decode (re_yb N y) pc = .ok (.ldc idx, 2) := hlen.elim (fun q => absurd q (by simp [re_len])) (fun q => by rw [hdg0, q]; rfl)
    split at hq
    next v hv => cases hq; exact lv_ldc hx hb hown (hBin _ ((o11 _ _ _ hv).1 v rfl)) hdg (kk (fun _ _ => rfl))
    next => cases hq
  case ldc_w idx =>
    simp only [re_cst] at hq
    have hdg : decode (re_yb N y) pc = .ok (.ldc_w idx, 3) := hlen.elim (fun q => absurd q (by simp [re_len])) (fun q => by rw [hdg0, q]; rfl)
    split at hq
    next v hv => cases hq; exact lv_ldcw hx hb hown (hBin _ ((o11 _ _ _ hv).1 v rfl)) hdg (kk (fun _ _ => rfl))
    next => cases hq
  case ldc2_w idx =>
    simp only [re_cst] at hq
    have hdg : decode (re_yb N y) pc = .ok (.ldc2_w idx, 3) := hlen.elim (fun q => absurd q (by simp [re_len])) (fun q => by rw [hdg0, q]; rfl)
    split at hq
    next v hv => cases hq; exact lv_ldc2 hx hb hown (hBin _ ((o11 _ _ _ hv).2 v rfl)) hdg (kk (fun _ _ => rfl))
    next => cases hq
  all_goals (exact absurd hq (by simp [re_cst]))
theorem re_ret_ok (F : re_Fr V N G D tys B0 y p s m args meth c) {ins : Instr} {len : Nat} {st sc : List Value} {h : re_H} {ws : va_W} {ad0 q9 : List Nat} {q : Nat × Value} {mc ms : Nat}
    (hdg0 : decode (re_yb N y) pc = .ok (ins, len)) (hlen : re_len ins = 0 ∨ len = re_len ins) (hq : re_ret (re_rt G y) ins st = some q) (rs : re_rs V (ad0 ++ q9) st sc) (hW : re_Wd V N D cA B0 (ad0 ++ q9) h ws H) (hS : va_S (fun q => B0 ≤ q) s.heap H locs)
    (hc1 : cells ≤ mc) (hs1 : slots ≤ ms) :
    W p l e R s m args below meth c H locs cells slots (vx_MQ below (re_Q V N D cA B0 ad0 q.1 q.2 h) (re_XQ V N D cA B0 ad0 q.1 h) args s mc ms (fun q => B0 ≤ q)) (F0 m pc ls sc) := by
  obtain ⟨hx, hb, hml, hr, hown, hts, hlocks, -⟩ := id F
  refine W.widen hc1 hs1 (vx_ret ?_)
  have hend : ∀ (k : Nat) (v : Value) (w : Option Value), k < 4 → (k = 0 → w = none) → (¬ k = 0 → ∃ w', w = some w' ∧ re_rv V (ad0 ++ q9) v w') → ∀ t : State, t.heap = H → s.WarmedH t.vm → re_Q V N D cA B0 ad0 k v h args s (.returned w) t := fun k v w h1 h2 h3 t ht hW9 => by
    refine ⟨⟨w, q9, ws, rfl, h1, h2, h3, ?_⟩, hS.F ht⟩
    rw [ht]
    exact hW
  cases ins
  case return_ =>
    simp only [re_ret] at hq
    have hdg : decode (re_yb N y) pc = .ok (.return_, 1) := hlen.elim (fun q => absurd q (by simp [re_len])) (fun q => by rw [hdg0, q]; rfl)
    split at hq
    next hrt =>
      cases hq
      cases re_rs_nil rs
      exact W.vret hx hb (hr.trans hrt) (hend 0 .null none (by omega) (fun _ => rfl) (fun z => absurd rfl z)) hS.2.2 hdg hlocks
    next => cases hq
  case ireturn =>
    simp only [re_ret] at hq
    have hdg : decode (re_yb N y) pc = .ok (.ireturn, 1) := hlen.elim (fun q => absurd q (by simp [re_len])) (fun q => by rw [hdg0, q]; rfl)
    split at hq
    next ty v hrt =>
      split at hq
      next hn =>
        cases hq
        obtain ⟨sr, rfl, rs1⟩ := re_rs_i rs
        cases re_rs_nil rs1
        exact W.zret hx hb (hr.trans hrt) hn (hend 1 (.int v) (some (.int v)) (by omega) (fun z => by cases z) (fun _ => ⟨_, rfl, rfl⟩)) hS.2.2 hdg hlocks
      next => cases hq
    next v hrt =>
      cases hq
      obtain ⟨sr, rfl, rs1⟩ := re_rs_f rs
      cases re_rs_nil rs1
      exact W.zret hx hb (hr.trans hrt) rfl (hend 1 (.float v) (some (.int (V.2.1 v.toNat))) (by omega) (fun z => by cases z) (fun _ => ⟨_, rfl, rfl⟩)) hS.2.2 hdg hlocks
    next => cases hq
  case lreturn =>
    simp only [re_ret] at hq
    have hdg : decode (re_yb N y) pc = .ok (.lreturn, 1) := hlen.elim (fun q => absurd q (by simp [re_len])) (fun q => by rw [hdg0, q]; rfl)
    split at hq
    next v hrt =>
      cases hq
      obtain ⟨sr, rfl, rs1⟩ := re_rs_l rs
      cases re_rs_nil rs1
      exact W.lret hx hb (hr.trans hrt) (hend 2 (.long v) (some (.long v)) (by omega) (fun z => by cases z) (fun _ => ⟨_, rfl, rfl⟩)) hS.2.2 hdg hlocks
    next v hrt =>
      cases hq
      obtain ⟨sr, rfl, rs1⟩ := re_rs_d rs
      cases re_rs_nil rs1
      exact W.lret hx hb (hr.trans hrt) (hend 2 (.double v) (some (.long (V.2.2.1 v.toNat))) (by omega) (fun z => by cases z) (fun _ => ⟨_, rfl, rfl⟩)) hS.2.2 hdg hlocks
    next => cases hq
  case areturn =>
    simp only [re_ret] at hq
    have hdg : decode (re_yb N y) pc = .ok (.areturn, 1) := hlen.elim (fun q => absurd q (by simp [re_len])) (fun q => by rw [hdg0, q]; rfl)
    split at hq
    next n i hrt =>
      cases hq
      obtain ⟨a, sr, rfl, ha, rs1⟩ := re_rs_r rs
      cases re_rs_nil rs1
      exact W.aret hx hb (hr.trans hrt) (Or.inl ⟨_, rfl⟩) (Or.inr ⟨_, rfl⟩) (hend 3 (.ref i) (some (.ref a)) (by omega) (fun z => by cases z) (fun _ => ⟨_, rfl, a, ha, rfl⟩)) hS.2.2 hdg hlocks
    next n hrt =>
      cases hq
      obtain ⟨sr, rfl, rs1⟩ := re_rs_n rs
      cases re_rs_nil rs1
      exact W.aret hx hb (hr.trans hrt) (Or.inl ⟨_, rfl⟩) (Or.inl rfl) (hend 3 .null (some .null) (by omega) (fun z => by cases z) (fun _ => ⟨_, rfl, rfl⟩)) hS.2.2 hdg hlocks
    next n i hrt =>
      cases hq
      obtain ⟨a, sr, rfl, ha, rs1⟩ := re_rs_r rs
      cases re_rs_nil rs1
      exact W.aret hx hb (hr.trans hrt) (Or.inr ⟨_, rfl⟩) (Or.inr ⟨_, rfl⟩) (hend 3 (.ref i) (some (.ref a)) (by omega) (fun z => by cases z) (fun _ => ⟨_, rfl, a, ha, rfl⟩)) hS.2.2 hdg hlocks
    next n hrt =>
      cases hq
      obtain ⟨sr, rfl, rs1⟩ := re_rs_n rs
      cases re_rs_nil rs1
      exact W.aret hx hb (hr.trans hrt) (Or.inr ⟨_, rfl⟩) (Or.inl rfl) (hend 3 .null (some .null) (by omega) (fun z => by cases z) (fun _ => ⟨_, rfl, rfl⟩)) hS.2.2 hdg hlocks
    next => cases hq
  all_goals (exact absurd hq (by simp [re_ret]))
theorem re_run {Qa : State → Outcome → State → Prop} {XC : String → State → State → Prop} {free : Addr → Prop} {mc ms : Nat} {st0 rest : List Value} {A0 : Nat → Prop} (hr : vx_Run p l e R s m args below meth c H locs cells slots mc ms (F0 m pc ls st0) rest Qa XC free) (hS : va_S A0 s.heap H locs) (hf : ∀ q, free q → A0 q)
    (hQ : ∀ st v t, Qa st (.returned v) t → va_F A0 st t) (hX : ∀ En st t, XC En st t → va_F A0 st t)
    (kk : ∀ (v : Option Value) (st₀ t : State) (H1 : Heap) (locs1 : List Loc), t.heap = H1 → Qa st₀ (.returned v) t → va_S A0 s.heap H1 locs1 → W p l e R s m args below meth c H1 locs1 (cells + mc) (slots + ms) Q (F0 m (pc + 3) ls (v.toList ++ rest)))
    (kx : ∀ (En : String) (ce : Cell) (q9 : Addr) (st₀ t : State) (H1 : Heap) (locs1 : List Loc), t.heap = H1 → XC En st₀ t → va_S A0 s.heap H1 locs1 → H1[q9]? = some ce → ce.vm = .none → s.vm.findClass En = some ce.cls → vx_W p l e R s m args below meth c H1 locs1 (cells + mc) (slots + ms) Q (F0 m pc ls rest) q9) :
    W p l e R s m args below meth c H locs cells slots Q (F0 m pc ls st0) := by
  intro T hT X
  rcases hr T hT X with ⟨v, st₀, t, T', L, h0, X', hL, e1, e2, hq, st⟩ | ⟨q, st₀, t, T', L, En, ce, h0, X', hL, e1, e2, hq, hce, hcv, hcl, st⟩
  · obtain ⟨k1, k2, k3⟩ := vx_keep h0 e1 hS (fun _ _ z => z) hf hL (hQ _ _ _ hq)
    obtain ⟨t2, a1, b1⟩ := kk v st₀ t T'.heap (locs ++ L) e1.symm hq k3 T' rfl X'
    exact ⟨t2, st t2 a1, b1⟩
  · obtain ⟨k1, k2, k3⟩ := vx_keep h0 e1 hS (fun _ _ z => z) hf hL (hX _ _ _ hq)
    obtain ⟨t2, a1, b1⟩ := kx En ce q st₀ t T'.heap (locs ++ L) e1.symm hq k3 (by rw [e1]; exact hce) hcv hcl T' rfl X'
    exact ⟨t2, st.trans a1, b1⟩
end REX
