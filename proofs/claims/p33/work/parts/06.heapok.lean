/-! What an instruction does to the heap that makes nothing: fields and places of arrays. -/
def re_in (x : Int32) (n : Nat) : Bool := !decide (x < 0) && decide (x.toNatClampNeg < n)
theorem re_in_ok {x : Int32} {n : Nat} (h : re_in x n = true) : vp_in x n := by
  unfold re_in at h
  simp only [Bool.and_eq_true, Bool.not_eq_true', decide_eq_false_iff_not, decide_eq_true_eq] at h
  intro z
  rcases z with z | z
  · exact h.1 z
  · omega
/-- an abstract value fits a field -/
def re_fit (ty : FieldType) (v : Value) : Bool := match v with
  | .float _ => decide (ty = .int)
  | .double _ => decide (ty = .long)
  | .retAddr _ => match ty with
    | .object _ => true
    | .array _ => true
    | _ => false
  | v => decide (narrow ty v = v) && fits ty v
def re_hp (nE : Nat) (fl : Nat → Option (Nat × Nat × FieldType × Nat)) (ec : Nat → Nat → Bool) (isI : Bool) (pc : Nat) (st : List Value) (h : re_H) (ins : Instr) : Option (Nat × List Value × re_H) := match ins with
  | .getfield idx => match fl idx, st with
    | some (ci, k, _, _), .ref i :: r => match re_hg h i with
      | some (t, vs) => if t = ci then (match vs[k]? with
        | some v => some (pc + 3, v :: r, h)
        | none => none) else none
      | none => none
    | _, _ => none
  | .putfield idx => match fl idx, st with
    | some (ci, k, ty, fin), v :: .ref i :: r => match re_hg h i with
      | some (t, vs) => if t = ci ∧ k < vs.length ∧ re_fit ty v = true ∧ (fin = 0 ∨ (fin = 1 ∧ isI = true)) then some (pc + 3, r, re_hw h i (t, vs.set k v)) else none
      | none => none
    | _, _ => none
  | .arraylength => match st with
    | .ref i :: r => match re_hg h i with
      | some (t, vs) => if 100 ≤ t ∧ t < 100 + nE then some (pc + 1, .int (Int32.ofNat vs.length) :: r, h) else none
      | none => none
    | _ => none
  | .iaload => match st with
    | .int x :: .ref i :: r => match re_hg h i with
      | some (t, vs) => if (t = 100) ∧ re_in x vs.length = true then (match vs[x.toNatClampNeg]? with
        | some v => some (pc + 1, v :: r, h)
        | none => none) else none
      | none => none
    | _ => none
  | .laload => match st with
    | .int x :: .ref i :: r => match re_hg h i with
      | some (t, vs) => if (t = 101) ∧ re_in x vs.length = true then (match vs[x.toNatClampNeg]? with
        | some v => some (pc + 1, v :: r, h)
        | none => none) else none
      | none => none
    | _ => none
  | .baload => match st with
    | .int x :: .ref i :: r => match re_hg h i with
      | some (t, vs) => if (t = 102) ∧ re_in x vs.length = true then (match vs[x.toNatClampNeg]? with
        | some v => some (pc + 1, v :: r, h)
        | none => none) else none
      | none => none
    | _ => none
  | .aaload => match st with
    | .int x :: .ref i :: r => match re_hg h i with
      | some (t, vs) => if (103 ≤ t ∧ t < 100 + nE) ∧ re_in x vs.length = true then (match vs[x.toNatClampNeg]? with
        | some v => some (pc + 1, v :: r, h)
        | none => none) else none
      | none => none
    | _ => none
  | .iastore => match st with
    | .int y :: .int x :: .ref i :: r => match re_hg h i with
      | some (t, vs) => if (t = 100) ∧ re_in x vs.length = true then some (pc + 1, r, re_hw h i (t, vs.set x.toNatClampNeg (.int y))) else none
      | none => none
    | _ => none
  | .lastore => match st with
    | .long y :: .int x :: .ref i :: r => match re_hg h i with
      | some (t, vs) => if (t = 101) ∧ re_in x vs.length = true then some (pc + 1, r, re_hw h i (t, vs.set x.toNatClampNeg (.long y))) else none
      | none => none
    | .double y :: .int x :: .ref i :: r => match re_hg h i with
      | some (t, vs) => if (t = 101) ∧ re_in x vs.length = true then some (pc + 1, r, re_hw h i (t, vs.set x.toNatClampNeg (.double y))) else none
      | none => none
    | _ => none
  | .bastore => match st with
    | .int y :: .int x :: .ref i :: r => match re_hg h i with
      | some (t, vs) => if (t = 102) ∧ re_in x vs.length = true then some (pc + 1, r, re_hw h i (t, vs.set x.toNatClampNeg (.int (vp_nar .boolean y)))) else none
      | none => none
    | _ => none
  | .aastore => match st with
    | .null :: .int x :: .ref i :: r => match re_hg h i with
      | some (t, vs) => if (103 ≤ t ∧ t < 100 + nE) ∧ re_in x vs.length = true then some (pc + 1, r, re_hw h i (t, vs.set x.toNatClampNeg .null)) else none
      | none => none
    | .ref v :: .int x :: .ref i :: r => match re_hg h i, re_hg h v with
      | some (t, vs), some (tv, _) => if (103 ≤ t ∧ t < 100 + nE) ∧ re_in x vs.length = true ∧ ec (t - 100) tv = true then some (pc + 1, r, re_hw h i (t, vs.set x.toNatClampNeg (.ref v))) else none
      | _, _ => none
    | _ => none
  | _ => none
def re_flok (s : State) (args : Array Value) (own : String) (cl : List vw_C) (idx ci k : Nat) (ty : FieldType) (fin : Nat) : Prop := ∃ (r : vw_C) (ref : String), cl[ci]? = some r ∧ k < r.2.2 ∧ (Cond.fieldLink own idx ref (r.2.1 k).2.1 (r.2.1 k).2.2.1).before args s = true ∧
  (∀ x, s.fieldFound? (r.2.1 k).1 (r.2.1 k).2.1 (r.2.1 k).2.2.1 = some x → s.fieldFound? ref (r.2.1 k).2.1 (r.2.1 k).2.2.1 = some x) ∧ parseFieldDescriptor (r.2.1 k).2.2.1 = some ty ∧ (fin = 0 → (r.2.1 k).2.2.2 = false) ∧ (fin = 1 → (r.2.1 k).2.2.2 = true ∧ (r.2.1 k).1 = own)
def re_Cl (cl : List vw_C) (Ts : List Cond) : Prop := cl.length ≤ 100 ∧ ∀ (ci : Nat) (r : vw_C), cl[ci]? = some r → (∀ w ∈ u_ws r.1 r.2.1 r.2.2, w ∈ Ts) ∧
  (∃ ty : Nat → FieldType, ∀ k, k < r.2.2 → parseFieldDescriptor (r.2.1 k).2.2.1 = some (ty k)) ∧ ∀ a, a < r.2.2 → ∀ b, b < r.2.2 → a ≠ b → (r.2.1 a).2.1 ≠ (r.2.1 b).2.1
def re_ecok (s : State) (cl : List vw_C) (E : Nat → FieldType) (j ci : Nat) : Prop := ∃ r : vw_C, cl[ci]? = some r ∧ (E j = .object r.1 ∨ ∃ nm, E j = .object nm ∧ va_Nw (.castable r.1 nm) s)
theorem re_fits {V : re_V} {ad : List Nat} {ty : FieldType} {v w : Value} (h : re_rv V ad v w) (hf : re_fit ty v = true) : narrow ty w = w ∧ fits ty w = true := by
  cases v <;> simp only [re_rv] at h
  case ref i =>
    obtain ⟨a, -, rfl⟩ := h
    simp only [re_fit, Bool.and_eq_true, decide_eq_true_eq] at hf
    obtain ⟨-, hf⟩ := hf
    cases ty <;> first | exact ⟨rfl, rfl⟩ | (cases hf)
  case float n =>
    subst h
    cases of_decide_eq_true hf
    exact ⟨rfl, rfl⟩
  case double n =>
    subst h
    cases of_decide_eq_true hf
    exact ⟨rfl, rfl⟩
  case retAddr n =>
    subst h
    cases ty <;> first | exact ⟨rfl, rfl⟩ | (cases hf)
  all_goals (subst h; simp only [re_fit, Bool.and_eq_true, decide_eq_true_eq] at hf; exact hf)
theorem re_cl_lt {cl : List vw_C} {Ts : List Cond} (h : re_Cl cl Ts) {ci : Nat} {r : vw_C} (hc : cl[ci]? = some r) : ci < 100 := by
  have h1 := (List.getElem?_eq_some_iff.mp hc).1
  have h2 := h.1
  omega
section REH
variable {V : re_V} {p : Program} {l : Launch} {e : Env} {R : Room} {s : State} {m : MethodId} {args : Array Value} {below : List Frame} {meth : Method} {c : Code} {H : Heap} {locs : List Loc} {cells slots : Nat} {Q : State → Prop} {cc : ByteArray} {pc : Nat} {ls : Array Slot} {D : va_G} {cl : List vw_C} {tys : List (ClassId × FieldType)} {A : Nat → Prop} {H0 : Heap} {ws : va_W}
theorem re_hp_ok (hx : p.tables.exec = Jvm.exec) (hb : c.code = cc) {Ts : List Cond} (hts : ∀ w ∈ Ts, w.before args s = true) {own : String} (hown : s.vm.findClass own = some m.cls) (hK : va_K D cl tys s) (hP : va_P D cl ws H) (hD : va_D A ws) (hS : va_S A H0 H locs)
    (hcl : re_Cl cl Ts) {fl : Nat → Option (Nat × Nat × FieldType × Nat)} (hfl : ∀ idx ci k ty fin, fl idx = some (ci, k, ty, fin) → re_flok s args own cl idx ci k ty fin) {E : Nat → FieldType} {cA : Nat → ClassId} {nE : Nat} (hE : ∀ j, j < nE → tys[j]? = some (cA j, E j)) (hE3 : 3 ≤ nE)
    (h0 : E 0 = .int) (h1 : E 1 = .long) (h2 : E 2 = .boolean) (h3 : ∀ j, 3 ≤ j → j < nE → ∃ nm, E j = .object nm) {ec : Nat → Nat → Bool} (hec : ∀ j ci, ec j ci = true → re_ecok s cl E j ci) {isI : Bool} (hisI : isI = true → meth.name = "<init>")
    {ad : List Nat} {ins : Instr} {len : Nat} {st sc st' : List Value} {h h' : re_H} {pc' : Nat}
    (hdg0 : decode cc pc = .ok (ins, len)) (hlen : re_len ins = 0 ∨ len = re_len ins) (hh : re_hp nE fl ec isI pc st h ins = some (pc', st', h')) (rs : re_rs V ad st sc) (rw0 : re_rW V E cA ad h ws)
    (kk : ∀ (H1 : Heap) (locs1 : List Loc) (ws' : va_W) (sc' : List Value), va_P D cl ws' H1 → va_D A ws' → va_S A H0 H1 locs1 → re_rs V ad st' sc' → re_rW V E cA ad h' ws' → W p l e R s m args below meth c H1 locs1 cells slots Q (F0 m pc' ls sc')) : W p l e R s m args below meth c H locs cells slots Q (F0 m pc ls sc) := by
  cases ins
  case getfield idx =>
    simp only [re_hp] at hh
    have hdg : decode cc pc = .ok (.getfield idx, 3) := hlen.elim (fun q => absurd q (by simp [re_len])) (fun q => by rw [hdg0, q]; rfl)
    split at hh
    next ci k ty fin i r hf =>
      split at hh
      next t vs hi =>
        split at hh
        next ht =>
          split at hh
          next v hv =>
            cases hh
            subst ht
            obtain ⟨a9, sr, rfl, ha, rs1⟩ := re_rs_r rs
            obtain ⟨a, e9, k1, k2, k3⟩ := rw0.2.2.1 i _ hi
            cases ha.symm.trans k1
            obtain ⟨⟨C, T, N⟩, ref, hc, hk, hlink, hsame, -⟩ := hfl _ _ _ _ _ hf
            obtain ⟨fs, rfl, k4⟩ := re_rE_obj k3 (re_cl_lt hcl hc)
            obtain ⟨w, hw, k5⟩ := re_rs_get k4 hv
            exact va_get (D := D) hx hb hts (hcl.2 _ _ hc).1 hown hK hP i k2 hc k hk hlink hsame hw hdg (kk _ _ _ _ hP hD hS ⟨k5, rs1⟩ rw0)
          next => cases hh
        next => cases hh
      next => cases hh
    next => cases hh
  case putfield idx =>
    simp only [re_hp] at hh
    have hdg : decode cc pc = .ok (.putfield idx, 3) := hlen.elim (fun q => absurd q (by simp [re_len])) (fun q => by rw [hdg0, q]; rfl)
    split at hh
    next ci k ty fin v i r hf =>
      split at hh
      next t vs hi =>
        split at hh
        next ht =>
          cases hh
          obtain ⟨ht, hkl, hft, hfin⟩ := ht
          subst ht
          obtain ⟨w, sr, rfl, rv, rs1⟩ := re_rs_cons rs
          obtain ⟨a9, sr, rfl, ha, rs2⟩ := re_rs_r rs1
          obtain ⟨a, e9, k1, k2, k3⟩ := rw0.2.2.1 i _ hi
          cases ha.symm.trans k1
          obtain ⟨⟨C, T, N⟩, ref, hc, hk, hlink, hsame, hpd, hf2, hdecl⟩ := hfl _ _ _ _ _ hf
          have hc100 := re_cl_lt hcl hc
          obtain ⟨fs, rfl, k4⟩ := re_rE_obj k3 hc100
          obtain ⟨hin, ⟨ty0, hty0⟩, hnm⟩ := hcl.2 _ _ hc
          obtain ⟨hn2, hft2⟩ := re_fits rv hft
          have hl2 : k < fs.length := by rw [re_rs_len k4]; exact hkl
          have hW2 := re_rW_set rw0 ha (c := (t, vs.set k v)) (e := .inr (t, fs.set k w)) (Or.inl ⟨hc100, _, rfl, re_rs_set rv k k4⟩)
          rcases hfin with hfin | ⟨hfin, hii⟩
          · exact va_put (D := D) hx hb hts hin ty0 hty0 hnm hown hK hP hD hS i k2 hc k hk hlink hsame (hf2 hfin) hpd hn2 hft2 hl2 hdg (fun H1 locs1 hP1 hD1 hS1 => kk _ _ _ _ hP1 hD1 hS1 rs2 hW2)
          · exact va_putF (D := D) hx hb hts hin ty0 hty0 hnm hown hK hP hD hS i k2 hc k hk hlink hsame (hdecl hfin).1 (hisI hii) (hdecl hfin).2 hpd hn2 hft2 hl2 hdg (fun H1 locs1 hP1 hD1 hS1 => kk _ _ _ _ hP1 hD1 hS1 rs2 hW2)
        next => cases hh
      next => cases hh
    next => cases hh
  case arraylength  =>
    simp only [re_hp] at hh
    have hdg : decode cc pc = .ok (.arraylength, 1) := hlen.elim (fun q => absurd q (by simp [re_len])) (fun q => by rw [hdg0, q]; rfl)
    split at hh
    next i r =>
      split at hh
      next t vs hi =>
        split at hh
        next ht =>
          cases hh
          obtain ⟨a9, sr, rfl, ha, rs1⟩ := re_rs_r rs
          obtain ⟨a, e9, k1, k2, k3⟩ := rw0.2.2.1 i _ hi
          cases ha.symm.trans k1
          obtain ⟨j, rfl⟩ : ∃ j, t = 100 + j := ⟨t - 100, by omega⟩
          obtain ⟨x, rfl, k4⟩ := re_rE_arr k3
          exact va_alen hx hb hK hP i j k2 (hE j (by omega)) rfl hdg (kk _ _ _ _ hP hD hS ⟨rfl, rs1⟩ rw0)
        next => cases hh
      next => cases hh
    next => cases hh
  case iaload  =>
    simp only [re_hp] at hh
    have hdg : decode cc pc = .ok (.iaload, 1) := hlen.elim (fun q => absurd q (by simp [re_len])) (fun q => by rw [hdg0, q]; rfl)
    split at hh
    next x i r =>
      split at hh
      next t vs hi =>
        split at hh
        next ht =>
          split at hh
          next v hv =>
            cases hh
            obtain ⟨sr, rfl, rs1⟩ := re_rs_i rs
            obtain ⟨a9, sr, rfl, ha, rs2⟩ := re_rs_r rs1
            obtain ⟨a, e9, k1, k2, k3⟩ := rw0.2.2.1 i _ hi
            cases ha.symm.trans k1
            obtain ⟨ht, hin⟩ := ht
            subst ht
            obtain ⟨x9, rfl, k4⟩ := re_rE_arr (j := 0) k3
            rw [h0] at k4
            obtain ⟨f, rfl, k5⟩ := k4
            exact va_iald hx hb hK hP i 0 k2 (by rw [← h0]; exact hE 0 (by omega)) (re_in_ok hin) hdg (kk _ _ _ _ hP hD hS ⟨k5 _ _ hv, rs2⟩ rw0)
          next => cases hh
        next => cases hh
      next => cases hh
    next => cases hh
  case laload  =>
    simp only [re_hp] at hh
    have hdg : decode cc pc = .ok (.laload, 1) := hlen.elim (fun q => absurd q (by simp [re_len])) (fun q => by rw [hdg0, q]; rfl)
    split at hh
    next x i r =>
      split at hh
      next t vs hi =>
        split at hh
        next ht =>
          split at hh
          next v hv =>
            cases hh
            obtain ⟨sr, rfl, rs1⟩ := re_rs_i rs
            obtain ⟨a9, sr, rfl, ha, rs2⟩ := re_rs_r rs1
            obtain ⟨a, e9, k1, k2, k3⟩ := rw0.2.2.1 i _ hi
            cases ha.symm.trans k1
            obtain ⟨ht, hin⟩ := ht
            subst ht
            obtain ⟨x9, rfl, k4⟩ := re_rE_arr (j := 1) k3
            rw [h1] at k4
            obtain ⟨f, rfl, k5⟩ := k4
            exact va_lald hx hb hK hP i 1 k2 (by rw [← h1]; exact hE 1 (by omega)) (re_in_ok hin) hdg (kk _ _ _ _ hP hD hS ⟨k5 _ _ hv, rs2⟩ rw0)
          next => cases hh
        next => cases hh
      next => cases hh
    next => cases hh
  case baload  =>
    simp only [re_hp] at hh
    have hdg : decode cc pc = .ok (.baload, 1) := hlen.elim (fun q => absurd q (by simp [re_len])) (fun q => by rw [hdg0, q]; rfl)
    split at hh
    next x i r =>
      split at hh
      next t vs hi =>
        split at hh
        next ht =>
          split at hh
          next v hv =>
            cases hh
            obtain ⟨sr, rfl, rs1⟩ := re_rs_i rs
            obtain ⟨a9, sr, rfl, ha, rs2⟩ := re_rs_r rs1
            obtain ⟨a, e9, k1, k2, k3⟩ := rw0.2.2.1 i _ hi
            cases ha.symm.trans k1
            obtain ⟨ht, hin⟩ := ht
            subst ht
            obtain ⟨x9, rfl, k4⟩ := re_rE_arr (j := 2) k3
            rw [h2] at k4
            obtain ⟨f, rfl, k5⟩ := k4
            exact va_zald hx hb hK hP i 2 k2 (by rw [← h2]; exact hE 2 (by omega)) (re_in_ok hin) hdg (kk _ _ _ _ hP hD hS ⟨k5 _ _ hv, rs2⟩ rw0)
          next => cases hh
        next => cases hh
      next => cases hh
    next => cases hh
  case aaload  =>
    simp only [re_hp] at hh
    have hdg : decode cc pc = .ok (.aaload, 1) := hlen.elim (fun q => absurd q (by simp [re_len])) (fun q => by rw [hdg0, q]; rfl)
    split at hh
    next x i r =>
      split at hh
      next t vs hi =>
        split at hh
        next ht =>
          split at hh
          next v hv =>
            cases hh
            obtain ⟨sr, rfl, rs1⟩ := re_rs_i rs
            obtain ⟨a9, sr, rfl, ha, rs2⟩ := re_rs_r rs1
            obtain ⟨a, e9, k1, k2, k3⟩ := rw0.2.2.1 i _ hi
            cases ha.symm.trans k1
            obtain ⟨⟨ht1, ht2⟩, hin⟩ := ht
            obtain ⟨j, rfl⟩ : ∃ j, t = 100 + j := ⟨t - 100, by omega⟩
            obtain ⟨x9, rfl, k4⟩ := re_rE_arr k3
            obtain ⟨nm, hj⟩ := h3 j (by omega) (by omega)
            rw [hj] at k4
            obtain ⟨f, rfl, k5⟩ := k4
            exact va_aldq hx hb hK hP i j k2 (by rw [← hj]; exact hE j (by omega)) (re_in_ok hin) hdg (kk _ _ _ _ hP hD hS ⟨k5 _ _ hv, rs2⟩ rw0)
          next => cases hh
        next => cases hh
      next => cases hh
    next => cases hh
  case iastore  =>
    simp only [re_hp] at hh
    have hdg : decode cc pc = .ok (.iastore, 1) := hlen.elim (fun q => absurd q (by simp [re_len])) (fun q => by rw [hdg0, q]; rfl)
    split at hh
    next y x i r =>
      split at hh
      next t vs hi =>
        split at hh
        next ht =>
          cases hh
          obtain ⟨sr, rfl, rs1⟩ := re_rs_i rs
          obtain ⟨sr, rfl, rs2⟩ := re_rs_i rs1
          obtain ⟨a9, sr, rfl, ha, rs3⟩ := re_rs_r rs2
          obtain ⟨a, e9, k1, k2, k3⟩ := rw0.2.2.1 i _ hi
          cases ha.symm.trans k1
          obtain ⟨ht, hin⟩ := ht
          subst ht
          obtain ⟨x9, rfl, k4⟩ := re_rE_arr (j := 0) k3
          rw [h0] at k4
          obtain ⟨f, rfl, k5⟩ := k4
          exact va_iast hx hb hK hP hD hS i 0 k2 (by rw [← h0]; exact hE 0 (by omega)) (re_in_ok hin) hdg (fun H1 locs1 hP1 hD1 hS1 => kk _ _ _ _ hP1 hD1 hS1 rs3 (re_rW_set rw0 ha (Or.inr ⟨0, .inl (upd f x.toNatClampNeg y), rfl, by rw [List.length_set], by rw [h0]; exact ⟨_, rfl, re_set_i k5 _ rfl⟩⟩)))
        next => cases hh
      next => cases hh
    next => cases hh
  case lastore  =>
    simp only [re_hp] at hh
    have hdg : decode cc pc = .ok (.lastore, 1) := hlen.elim (fun q => absurd q (by simp [re_len])) (fun q => by rw [hdg0, q]; rfl)
    split at hh
    next y x i r =>
      split at hh
      next t vs hi =>
        split at hh
        next ht =>
          cases hh
          obtain ⟨sr, rfl, rs1⟩ := re_rs_l rs
          obtain ⟨sr, rfl, rs2⟩ := re_rs_i rs1
          obtain ⟨a9, sr, rfl, ha, rs3⟩ := re_rs_r rs2
          obtain ⟨a, e9, k1, k2, k3⟩ := rw0.2.2.1 i _ hi
          cases ha.symm.trans k1
          obtain ⟨ht, hin⟩ := ht
          subst ht
          obtain ⟨x9, rfl, k4⟩ := re_rE_arr (j := 1) k3
          rw [h1] at k4
          obtain ⟨f, rfl, k5⟩ := k4
          exact va_last hx hb hK hP hD hS i 1 k2 (by rw [← h1]; exact hE 1 (by omega)) (re_in_ok hin) hdg (fun H1 locs1 hP1 hD1 hS1 => kk _ _ _ _ hP1 hD1 hS1 rs3 (re_rW_set rw0 ha (Or.inr ⟨1, .inr (.inl (vp_updL f x.toNatClampNeg y)), rfl, by rw [List.length_set], by rw [h1]; exact ⟨_, rfl, re_set_l k5 _ rfl⟩⟩)))
        next => cases hh
      next => cases hh
    next y x i r =>
      split at hh
      next t vs hi =>
        split at hh
        next ht =>
          cases hh
          obtain ⟨sr, rfl, rs1⟩ := re_rs_d rs
          obtain ⟨sr, rfl, rs2⟩ := re_rs_i rs1
          obtain ⟨a9, sr, rfl, ha, rs3⟩ := re_rs_r rs2
          obtain ⟨a, e9, k1, k2, k3⟩ := rw0.2.2.1 i _ hi
          cases ha.symm.trans k1
          obtain ⟨ht, hin⟩ := ht
          subst ht
          obtain ⟨x9, rfl, k4⟩ := re_rE_arr (j := 1) k3
          rw [h1] at k4
          obtain ⟨f, rfl, k5⟩ := k4
          exact va_last hx hb hK hP hD hS i 1 k2 (by rw [← h1]; exact hE 1 (by omega)) (re_in_ok hin) hdg (fun H1 locs1 hP1 hD1 hS1 => kk _ _ _ _ hP1 hD1 hS1 rs3 (re_rW_set rw0 ha (Or.inr ⟨1, .inr (.inl (vp_updL f x.toNatClampNeg (V.2.2.1 y.toNat))), rfl, by rw [List.length_set], by rw [h1]; exact ⟨_, rfl, re_set_l k5 _ rfl⟩⟩)))
        next => cases hh
      next => cases hh
    next => cases hh
  case bastore  =>
    simp only [re_hp] at hh
    have hdg : decode cc pc = .ok (.bastore, 1) := hlen.elim (fun q => absurd q (by simp [re_len])) (fun q => by rw [hdg0, q]; rfl)
    split at hh
    next y x i r =>
      split at hh
      next t vs hi =>
        split at hh
        next ht =>
          cases hh
          obtain ⟨sr, rfl, rs1⟩ := re_rs_i rs
          obtain ⟨sr, rfl, rs2⟩ := re_rs_i rs1
          obtain ⟨a9, sr, rfl, ha, rs3⟩ := re_rs_r rs2
          obtain ⟨a, e9, k1, k2, k3⟩ := rw0.2.2.1 i _ hi
          cases ha.symm.trans k1
          obtain ⟨ht, hin⟩ := ht
          subst ht
          obtain ⟨x9, rfl, k4⟩ := re_rE_arr (j := 2) k3
          rw [h2] at k4
          obtain ⟨f, rfl, k5⟩ := k4
          exact va_zast hx hb hK hP hD hS i 2 k2 (by rw [← h2]; exact hE 2 (by omega)) (re_in_ok hin) hdg (fun H1 locs1 hP1 hD1 hS1 => kk _ _ _ _ hP1 hD1 hS1 rs3 (re_rW_set rw0 ha (Or.inr ⟨2, .inl (upd f x.toNatClampNeg (vp_nar .boolean y)), rfl, by rw [List.length_set], by rw [h2]; exact ⟨_, rfl, re_set_i k5 _ rfl⟩⟩)))
        next => cases hh
      next => cases hh
    next => cases hh
  case aastore  =>
    simp only [re_hp] at hh
    have hdg : decode cc pc = .ok (.aastore, 1) := hlen.elim (fun q => absurd q (by simp [re_len])) (fun q => by rw [hdg0, q]; rfl)
    split at hh
    next x i r =>
      split at hh
      next t vs hi =>
        split at hh
        next ht =>
          cases hh
          obtain ⟨sr, rfl, rs1⟩ := re_rs_n rs
          obtain ⟨sr, rfl, rs2⟩ := re_rs_i rs1
          obtain ⟨a9, sr, rfl, ha, rs3⟩ := re_rs_r rs2
          obtain ⟨a, e9, k1, k2, k3⟩ := rw0.2.2.1 i _ hi
          cases ha.symm.trans k1
          obtain ⟨⟨ht1, ht2⟩, hin⟩ := ht
          obtain ⟨j, rfl⟩ : ∃ j, t = 100 + j := ⟨t - 100, by omega⟩
          obtain ⟨x9, rfl, k4⟩ := re_rE_arr k3
          obtain ⟨nm, hj⟩ := h3 j (by omega) (by omega)
          rw [hj] at k4
          obtain ⟨f, rfl, k5⟩ := k4
          exact va_astqN hx hb hK hP hD hS i j k2 (by rw [← hj]; exact hE j (by omega)) (re_in_ok hin) hdg (fun H1 locs1 hP1 hD1 hS1 => kk _ _ _ _ hP1 hD1 hS1 rs3 (re_rW_set rw0 ha (Or.inr ⟨j, .inr (.inr (.inr (.inr (va_up f x.toNatClampNeg none)))), rfl, by rw [List.length_set], by rw [hj]; exact ⟨_, rfl, re_set_q k5 _ (v0 := .null) (x := none) rfl⟩⟩)))
        next => cases hh
      next => cases hh
    next v x i r =>
      split at hh
      next t vs tv vs2 hi hv =>
        split at hh
        next ht =>
          cases hh
          obtain ⟨av, sr, rfl, hav, rs1⟩ := re_rs_r rs
          obtain ⟨sr, rfl, rs2⟩ := re_rs_i rs1
          obtain ⟨a9, sr, rfl, ha, rs3⟩ := re_rs_r rs2
          obtain ⟨a, e9, k1, k2, k3⟩ := rw0.2.2.1 i _ hi
          cases ha.symm.trans k1
          obtain ⟨⟨ht1, ht2⟩, hin, hecc⟩ := ht
          obtain ⟨j, rfl⟩ : ∃ j, t = 100 + j := ⟨t - 100, by omega⟩
          obtain ⟨x9, rfl, k4⟩ := re_rE_arr k3
          obtain ⟨nm, hj⟩ := h3 j (by omega) (by omega)
          rw [hj] at k4
          obtain ⟨f, rfl, k5⟩ := k4
          rw [show 100 + j - 100 = j by omega] at hecc
          obtain ⟨q1, q2, q3⟩ := hec _ _ hecc
          obtain ⟨a2, e2, m1, m2, m3⟩ := rw0.2.2.1 v _ hv
          cases hav.symm.trans m1
          obtain ⟨fs2, rfl, m4⟩ := re_rE_obj m3 (re_cl_lt hcl q2)
          have hW2 := re_rW_set rw0 ha (c := (100 + j, vs.set x.toNatClampNeg (.ref v))) (e := .inl (cA j, vs.length, .inr (.inr (.inr (.inr (va_up f x.toNatClampNeg (some av))))))) (Or.inr ⟨j, _, rfl, by rw [List.length_set], by rw [hj]; exact ⟨_, rfl, re_set_q k5 _ (v0 := .ref v) (x := some av) ⟨av, hav, rfl⟩⟩⟩)
          rcases q3 with q3 | ⟨nm2, q3, q4⟩
          · exact va_astq hx hb hK hP hD hS i j v tv k2 (by rw [← q3]; exact hE j (by omega)) m2 q2 (re_in_ok hin) hdg (fun H1 locs1 hP1 hD1 hS1 => kk _ _ _ _ hP1 hD1 hS1 rs3 hW2)
          · exact va_astqO hx hb hK hP hD hS i j v tv k2 (by rw [← q3]; exact hE j (by omega)) q4 m2 q2 (re_in_ok hin) hdg (fun H1 locs1 hP1 hD1 hS1 => kk _ _ _ _ hP1 hD1 hS1 rs3 hW2)
        next => cases hh
      next => cases hh
    next => cases hh
  all_goals (exact absurd hh (by simp [re_hp]))
end REH
