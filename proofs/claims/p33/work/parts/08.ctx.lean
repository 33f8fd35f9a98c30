/-! What the tables must say, and what a frame's state is. -/
abbrev re_N : Type := (Nat → MethodName) × (Nat → ByteArray) × List Cond × List vw_C × (Nat → FieldType) × List (String × Nat × String) × (Nat → String) × List Cond
abbrev re_yn (N : re_N) : Nat → MethodName := N.1
abbrev re_yb (N : re_N) : Nat → ByteArray := N.2.1
abbrev re_B (N : re_N) : List Cond := N.2.2.1
abbrev re_cs (N : re_N) : List vw_C := N.2.2.2.1
abbrev re_E (N : re_N) : Nat → FieldType := N.2.2.2.2.1
abbrev re_SL (N : re_N) : List (String × Nat × String) := N.2.2.2.2.2.1
abbrev re_xn (N : re_N) : Nat → String := N.2.2.2.2.2.2.1
/-- words of the tables that are handed on by themselves -/
abbrev re_TW (N : re_N) : List Cond := N.2.2.2.2.2.2.2
/-- a method's own word -/
def re_cw (N : re_N) (G : re_G) (y : Nat) : Cond := match re_hh G y with
  | [] => Cond.code (re_yn N y) (re_yb N y) (re_nl G y) (re_rt G y)
  | hh => Cond.codeWith (re_yn N y) (re_yb N y) (re_nl G y) (re_rt G y) hh
def re_ws (N : re_N) (G : re_G) (y : Nat) : List Cond := re_cw N G y :: re_B N
def re_xs : List String := ["java/lang/RuntimeException", "java/lang/Exception"]
def re_okF (N : re_N) (y idx ci k : Nat) (ty : FieldType) (fin : Nat) : Prop := ∃ (r : vw_C) (ref : String), (re_cs N)[ci]? = some r ∧ k < r.2.2 ∧ Cond.fieldLink (re_yn N y).cls idx ref (r.2.1 k).2.1 (r.2.1 k).2.2.1 ∈ re_B N ∧ (ref = (r.2.1 k).1 ∨ Cond.sameField ref (r.2.1 k).1 (r.2.1 k).2.1 (r.2.1 k).2.2.1 ∈ re_B N) ∧ parseFieldDescriptor (r.2.1 k).2.2.1 = some ty ∧ (fin = 0 → (r.2.1 k).2.2.2 = false) ∧ (fin = 1 → (r.2.1 k).2.2.2 = true ∧ (r.2.1 k).1 = (re_yn N y).cls)
def re_okM (N : re_N) (G : re_G) (y' na : Nat) : Prop := re_cw N G y' ∈ re_B N ∧ Cond.initialized (re_yn N y').cls ∈ re_B N ∧ plainName (re_yn N y').cls = true ∧
  ((re_yn N y').cls ≠ "java/lang/invoke/MethodHandle" ∧ (re_yn N y').cls ≠ "java/lang/invoke/VarHandle" ∧ (parseMethodDescriptor (re_yn N y').desc).map (fun d => d.parameters.length) = some na)
def re_okC (N : re_N) (G : re_G) (y idx k y' na : Nat) : Prop := (k = 3 → Cond.methodLink (re_yn N y).cls idx Lib.objectInit ∈ re_B N ∧ Cond.instanceMethod Lib.objectInit ∈ re_B N ∧ Cond.code Lib.objectInit ⟨#[0xb1]⟩ 1 none ∈ re_B N) ∧
  (¬ k = 3 → re_okM N G y' na) ∧ (k = 0 ∨ k = 1 ∨ k = 2 ∨ k = 8 → Cond.methodLink (re_yn N y).cls idx (re_yn N y') ∈ re_B N) ∧ (k = 4 ∨ k = 5 ∨ k = 6 → ∃ z, Cond.methodLinkNest (re_yn N y).cls idx (re_yn N y') z ∈ re_TW N) ∧
  (k = 0 ∨ k = 4 ∨ k = 8 → Cond.static (re_yn N y') ∈ re_B N) ∧ (k = 1 ∨ k = 2 ∨ k = 5 ∨ k = 6 → Cond.instanceMethod (re_yn N y') ∈ re_B N) ∧ (k = 1 ∨ k = 5 → Cond.selects (re_yn N y').cls (re_yn N y') (re_yn N y') ∈ re_B N ∧ ∃ r : vw_C, (re_cs N)[re_ct G y']? = some r ∧ r.1 = (re_yn N y').cls) ∧
  (k = 2 ∨ k = 6 → (re_yn N y').name = "<init>" ∧ re_rt G y' = none) ∧ (¬ k = 3 → ¬ k = 8 → re_hh G y' = []) ∧ (k = 8 → ¬ re_hh G y' = [])
def re_okW (N : re_N) (y idx : Nat) (d : Nat × List Value) : Prop := d.1 < 100 → ∃ r : vw_C, (re_cs N)[d.1]? = some r ∧ Cond.classLink (re_yn N y).cls idx r.1 ∈ re_B N ∧ Cond.instantiable r.1 r.2.2 ∈ re_B N ∧ Cond.initialized r.1 ∈ re_B N ∧ d.2.length = r.2.2 ∧ (∀ v ∈ d.2, v = .null ∨ v = .int 0 ∨ v = .long 0) ∧
  ∀ (ty : Nat → FieldType), (∀ k, k < r.2.2 → parseFieldDescriptor (r.2.1 k).2.2.1 = some (ty k)) → ∀ j, j < r.2.2 → defaultValue (ty j) = vp_V d.2 j
def re_okT (N : re_N) (y pc x : Nat) : Prop := x < 3 ∧ ∃ (ik is ic : Nat) (text : String), Bundle.fit (re_xn N x) = true ∧ Cond.classLink (re_yn N y).cls ik (re_xn N x) ∈ re_B N ∧ Cond.initialized (re_xn N x) ∈ re_B N ∧ ((re_yn N y).cls, is, text) ∈ re_SL N ∧
  (∀ w ∈ (vx_atS (re_yn N y).cls ic (re_xn N x) re_xs), w ∈ re_B N ∨ w ∈ re_TW N) ∧ (∀ w ∈ Cond.classLink (re_yn N y).cls ik (re_xn N x) :: Cond.initialized (re_xn N x) :: vx_atS (re_yn N y).cls ic (re_xn N x) re_xs, vx_ot w = true) ∧
  decode (re_yb N y) pc = .ok (.new ik, 3) ∧ decode (re_yb N y) (pc + 3) = .ok (.dup, 1) ∧ ((decode (re_yb N y) (pc + 4) = .ok (.ldc is, 2) ∧ decode (re_yb N y) (pc + 6) = .ok (.invokespecial ic, 3) ∧ decode (re_yb N y) (pc + 9) = .ok (.athrow, 1)) ∨
  (decode (re_yb N y) (pc + 4) = .ok (.ldc_w is, 3) ∧ decode (re_yb N y) (pc + 7) = .ok (.invokespecial ic, 3) ∧ decode (re_yb N y) (pc + 10) = .ok (.athrow, 1)))
def re_okK (N : re_N) (y idx : Nat) (v : Value) : Prop := (∀ x : Int32, v = .int x → Cond.constant (re_yn N y).cls idx x ∈ re_B N) ∧ ∀ x : Int64, v = .long x → Cond.constantLong (re_yn N y).cls idx x ∈ re_B N
def re_ok (N : re_N) (G : re_G) : Prop :=
  (∀ y pc ins, re_ins G y pc = some ins → ∃ len, decode (re_yb N y) pc = .ok (ins, len) ∧ (re_len ins = 0 ∨ len = re_len ins)) ∧
  (∀ y idx ci k ty fin, re_fl G y idx = some (ci, k, ty, fin) → re_okF N y idx ci k ty fin) ∧
  re_Cl (re_cs N) (re_B N) ∧
  (re_E N 0 = .int ∧ re_E N 1 = .long ∧ re_E N 2 = .boolean ∧ 3 ≤ re_nE G ∧ ∀ j, 3 ≤ j → j < re_nE G → ∃ nm, re_E N j = .object nm) ∧
  (∀ j ci, re_ec G j ci = true → ∃ r : vw_C, (re_cs N)[ci]? = some r ∧ (re_E N j = .object r.1 ∨ ∃ nm, re_E N j = .object nm ∧ Cond.castable r.1 nm ∈ re_TW N)) ∧
  (∀ y, re_isI G y = true → (re_yn N y).name = "<init>") ∧
  (∀ y idx k y' na, re_cl G y idx = some (k, y', na) → re_okC N G y idx k y' na) ∧
  (∀ y idx d, re_nw G y idx = some d → re_okW N y idx d) ∧
  (∀ y idx j, re_an G y idx = some j → 3 ≤ j ∧ j < re_nE G ∧ ∃ C, re_E N j = .object C ∧ Cond.classLink (re_yn N y).cls idx C ∈ re_B N) ∧
  (Cond.arrayClass .int ∈ re_B N ∧ Cond.arrayClass .long ∈ re_B N ∧ Cond.arrayClass .boolean ∈ re_B N) ∧
  (∀ y idx v, re_ks G y idx = some v → re_okK N y idx v) ∧
  (∀ y pc x, re_tw G y pc = some x → re_okT N y pc x ∧ re_hh G y = []) ∧
  (∀ w ∈ re_B N, goodWord w = true) ∧
  (∀ w ∈ re_TW N, (∃ C T, w = .castable C T) ∨ (∃ a i x z, w = .methodLinkNest a i x z) ∨ ∃ x, w = .declares x) ∧
  ∀ y t x, re_hk G y t = some x → x < 3 ∧ ¬ t = 0 ∧ Cond.classLink (re_yn N y).cls t (re_xn N x) ∈ re_B N ∧ Cond.castable (re_xn N x) (re_xn N x) ∈ re_TW N
def re_okD (N : re_N) (y idx k : Nat) : Prop := k = 1 → Cond.methodLink (re_yn N y).cls idx Lib.MathLoose.min_long.x ∈ re_B N ∧ Cond.static Lib.MathLoose.min_long.x ∈ re_B N ∧ Cond.initialized "java/lang/Math" ∈ re_B N ∧ Cond.code Lib.MathLoose.min_long.x Lib.MathLoose.min_long.code 4 (some .long) ∈ re_B N
def re_okJ (N : re_N) (G : re_G) : Prop := ∀ y idx k y', re_jd G y idx = some (k, y') → re_okD N y idx k
/-- what a state of the machine is, whatever runs there -/
def re_At (V : re_V) (N : re_N) (D : va_G) (tys : List (ClassId × FieldType)) (B0 : Nat) (U : State) : Prop := va_K D (re_cs N) tys U ∧ vx_Zq Bundle.tN "UNASSIGNED_STACK" Bundle.steD (fun q => B0 ≤ q) U U.heap ∧ vx_Zq Bundle.tN "SUPPRESSED_SENTINEL" Bundle.listD (fun q => B0 ≤ q) U U.heap ∧
  (∀ q ∈ re_SL N, ∃ a, vk_R q.1 q.2.1 q.2.2 a U) ∧ B0 ≤ U.heap.size ∧ (∀ (j : Nat) (C : String), re_E N j = .object C → va_AO C U) ∧ (∀ w ∈ re_TW N, ((∃ C T, w = .castable C T) ∨ (∃ a i x z, w = .methodLinkNest a i x z) ∨ ∃ x, w = .declares x) ∧ va_Nw w U) ∧
  va_X (V.1 2) V.2.2.2.1 V.2.2.2.2 U U.heap ∧ V.1 2 < B0 ∧ (∀ x x' : Nat, x < 3 → x' < 3 → ¬ x = x' → va_Nc (re_xn N x) (re_xn N x') U) ∧ True
def re_Wd (V : re_V) (N : re_N) (D : va_G) (cA : Nat → ClassId) (B0 : Nat) (ad : List Nat) (h : re_H) (ws : va_W) (H : Heap) : Prop := re_rW V (re_E N) cA ad h ws ∧ va_P D (re_cs N) ws H ∧ va_D (fun q => B0 ≤ q) ws
def re_Pc (V : re_V) (N : re_N) (D : va_G) (tys : List (ClassId × FieldType)) (cA : Nat → ClassId) (B0 : Nat) (asC : List Value) (ad : List Nat) (h : re_H) (ws : va_W) : Array Value → State → Prop := va_Pc asC (fun U => re_At V N D tys B0 U ∧ re_Wd V N D cA B0 ad h ws U.heap)
def re_Q (V : re_V) (N : re_N) (D : va_G) (cA : Nat → ClassId) (B0 : Nat) (ad0 : List Nat) (k : Nat) (v : Value) (h : re_H) : Array Value → State → Outcome → State → Prop := fun _ st oc t =>
  (∃ (w : Option Value) (q : List Nat) (ws2 : va_W), oc = .returned w ∧ k < 4 ∧ (k = 0 → w = none) ∧ (¬ k = 0 → ∃ w', w = some w' ∧ re_rv V (ad0 ++ q) v w') ∧ re_Wd V N D cA B0 (ad0 ++ q) h ws2 t.heap) ∧ va_F (fun q => B0 ≤ q) st t
def re_XQ (V : re_V) (N : re_N) (D : va_G) (cA : Nat → ClassId) (B0 : Nat) (ad0 : List Nat) (k : Nat) (h : re_H) : String → State → State → Prop := fun En st t =>
  (∃ (x : Nat) (q : List Nat) (ws2 : va_W), k = 4 + x ∧ x < 3 ∧ En = re_xn N x ∧ re_Wd V N D cA B0 (ad0 ++ q) h ws2 t.heap) ∧ va_F (fun q => B0 ≤ q) st t
def re_Fr (V : re_V) (N : re_N) (G : re_G) (D : va_G) (tys : List (ClassId × FieldType)) (B0 y : Nat) (p : Program) (s : State) (m : MethodId) (args : Array Value) (meth : Method) (c : Code) : Prop :=
  p.tables.exec = Jvm.exec ∧ c.code = re_yb N y ∧ c.maxLocals = re_nl G y ∧ meth.sig.returnType = re_rt G y ∧ s.vm.findClass (re_yn N y).cls = some m.cls ∧ (∀ w ∈ re_ws N G y, w.before args s = true) ∧ meth.locks = false ∧ meth.name = (re_yn N y).name ∧ c.exceptionTable.toList.map (fun z => (z.startPc, z.endPc, z.handlerPc, z.catchType)) = re_hh G y ∧ re_At V N D tys B0 s
/-- the walk of n steps is what the machine does -/
def re_J (V : re_V) (O : re_K) (N : re_N) (G : re_G) (l : Launch) (D : va_G) (tys : List (ClassId × FieldType)) (cA : Nat → ClassId) (B0 n : Nat) : Prop :=
  ∀ (y pc : Nat) (lv : List (Nat × Value)) (st : List Value) (h : re_H) (res : re_Res), re_go G O n y pc lv st h = some res →
  ∀ (p : Program) (e : Env) (R : Room) (s : State) (m : MethodId) (args : Array Value) (below : List Frame) (meth : Method) (c : Code), re_Fr V N G D tys B0 y p s m args meth c →
  ∀ (H : Heap) (locs : List Loc) (cells slots : Nat) (ls : Array Slot) (lc : List (Nat × Value)) (sc : List Value) (ad0 q : List Nat) (ws : va_W), lv_has ls (re_nl G y) lc → re_rl V (ad0 ++ q) lv lc → re_rs V (ad0 ++ q) st sc → re_Wd V N D cA B0 (ad0 ++ q) h ws H → va_S (fun q => B0 ≤ q) s.heap H locs →
  ∀ (mc ms : Nat), cells + res.2.2.2.1 ≤ mc → slots + res.2.2.2.2.1 ≤ ms → mc ≤ R.cells → ms ≤ R.slots → res.2.2.2.2.2.1 ≤ R.frames → res.2.2.2.2.2.2 ≤ R.locals →
  W p l e R s m args below meth c H locs cells slots (vx_MQ below (re_Q V N D cA B0 ad0 res.1 res.2.1 res.2.2.1) (re_XQ V N D cA B0 ad0 res.1 res.2.2.1) args s mc ms (fun q => B0 ≤ q)) (F0 m pc ls sc)
theorem re_K_moved {V : re_V} {N : re_N} {D : va_G} {tys : List (ClassId × FieldType)} {B0 : Nat} {s U : State} {H : Heap} {locs : List Loc} (h : re_At V N D tys B0 s) (hS : va_S (fun q => B0 ≤ q) s.heap H locs) (hU : U.heap = H) (hW : s.WarmedH U.vm) : re_At V N D tys B0 U := by
  obtain ⟨h1, h2, h3, h4, h5, h6, h8, hx1, hx2, hx3⟩ := h
  refine ⟨va_K.moved hW.alike h1, ?_, ?_, fun q hq => ?_, ?_, fun j C hj => va_AO.moved hW.alike (h6 j C hj), fun w hw => ⟨(h8 w hw).1, ?_⟩, ?_, hx2, fun x x' a b z => va_Nc.moved hW.alike (hx3.1 x x' a b z), trivial⟩
  · rw [hU]; exact (vx_Zq.moved hW.alike h2).kept (fun a h6 h7 => hS.2.1 a h6 h7)
  · rw [hU]; exact (vx_Zq.moved hW.alike h3).kept (fun a h6 h7 => hS.2.1 a h6 h7)
  · obtain ⟨a, ha⟩ := h4 q hq
    exact ⟨a, vk_R.warm hW ha⟩
  · rw [hU]; exact Nat.le_trans h5 hS.1
  · obtain ⟨q1, q2⟩ := h8 w hw
    rcases q1 with ⟨C, T, rfl⟩ | ⟨a, i, x, z, rfl⟩ | ⟨x, rfl⟩
    · exact va_Nw.warmC hW q2
    · exact va_Nw.warmM hW q2
    · exact va_Nw.warmD hW q2
  · rw [hU]; exact (va_X.moved hW.alike hx1).kept (hS.2.1 _ (Nat.lt_of_lt_of_le hx2 h5) (by omega))
theorem re_blind {V : re_V} {N : re_N} {D : va_G} {tys : List (ClassId × FieldType)} {cA : Nat → ClassId} {B0 : Nat} {asC : List Value} {ad : List Nat} {h : re_H} {ws : va_W} : FrameBlind (re_Pc V N D tys cA B0 asC ad h ws) := by
  intro a U g mk hp
  obtain ⟨h0, ⟨h1, h2, h3, h4, h5, h7, h8, hx1, hx2, hx3⟩, h6⟩ := hp
  refine ⟨h0, ⟨va_K.moved (u := U) (U := U.calling g mk a) (Vm.Alike.refl U.vm) h1, vx_Zq.moved (u := U) (U := U.calling g mk a) (Vm.Alike.refl U.vm) h2, vx_Zq.moved (u := U) (U := U.calling g mk a) (Vm.Alike.refl U.vm) h3, fun q hq => ?_, h5, fun j C hj => va_AO.moved (u := U) (U := U.calling g mk a) (Vm.Alike.refl U.vm) (h7 j C hj), fun w hw => ⟨(h8 w hw).1, ?_⟩, va_X.moved (u := U) (U := U.calling g mk a) (Vm.Alike.refl U.vm) hx1, hx2, fun x x' a9 b9 z9 => va_Nc.moved (u := U) (U := U.calling g mk a) (Vm.Alike.refl U.vm) (hx3.1 x x' a9 b9 z9), trivial⟩, h6⟩
  · obtain ⟨b, hb⟩ := h4 q hq
    exact ⟨b, vk_R.same (u := U) (U := U.calling g mk a) rfl hb⟩
  · obtain ⟨q1, q2⟩ := h8 w hw
    rcases q1 with ⟨C, T, rfl⟩ | ⟨a, i, x, z, rfl⟩ | ⟨x, rfl⟩
    · exact va_Nw.same (u := U) rfl rfl q2
    · exact va_Nw.same (u := U) rfl rfl q2
    · exact va_Nw.same (u := U) rfl rfl q2
theorem re_args {V : re_V} {ad : List Nat} : ∀ {vs ws : List Value} (i : Nat), re_rs V ad vs ws → re_rl V ad (lv_args i vs) (lv_args i ws)
  | [], [], _, _ => fun j v h => by cases h
  | [], _ :: _, _, h => absurd h id
  | _ :: _, [], _, h => absurd h id
  | v :: vs, w :: ws, i, h => by
    have e := re_rv_cat h.1
    refine re_rl_cons i h.1 ?_
    rw [e]
    exact re_args _ h.2
theorem re_cat_c {V : re_V} {ad : List Nat} : ∀ {vs ws : List Value}, re_rs V ad vs ws → re_cat ws = re_cat vs
  | [], [], _ => rfl
  | [], _ :: _, h => absurd h id
  | _ :: _, [], h => absurd h id
  | v :: vs, w :: ws, h => by
    have ih := re_cat_c h.2
    unfold re_cat at ih ⊢
    rw [List.map_cons, List.map_cons, List.sum_cons, List.sum_cons, ih, re_rv_cat h.1]
theorem re_sl : ∀ vs : List Value, (lg_sl vs).length ≤ re_cat vs
  | [] => Nat.le_refl _
  | v :: vs => by
    have ih := re_sl vs
    unfold re_cat lg_sl at ih ⊢
    rw [List.flatMap_cons, List.length_append, List.map_cons, List.sum_cons]
    have : (if v.category = 2 then [Slot.val v, Slot.second] else [Slot.val v]).length ≤ v.category := by
      split
      · next h => rw [h]; exact Nat.le_refl _
      · next h => cases v <;> first | exact Nat.le_refl _ | exact absurd rfl h
    omega
theorem re_rs_take {V : re_V} {ad : List Nat} : ∀ {vs ws : List Value} (n : Nat), re_rs V ad vs ws → re_rs V ad (vs.take n) (ws.take n) ∧ re_rs V ad (vs.drop n) (ws.drop n)
  | [], [], n, _ => by simp [re_rs]
  | [], _ :: _, _, h => absurd h id
  | _ :: _, [], _, h => absurd h id
  | _ :: _, _ :: _, 0, h => ⟨trivial, h⟩
  | _ :: _, _ :: _, n + 1, h => ⟨⟨h.1, (re_rs_take n h.2).1⟩, (re_rs_take n h.2).2⟩
theorem re_rs_rev {V : re_V} {ad : List Nat} : ∀ {vs ws : List Value}, re_rs V ad vs ws → re_rs V ad vs.reverse ws.reverse
  | [], [], _ => trivial
  | [], _ :: _, h => absurd h id
  | _ :: _, [], h => absurd h id
  | _ :: _, _ :: _, h => by
    rw [List.reverse_cons, List.reverse_cons]
    exact re_rs_app (re_rs_rev h.2) ⟨h.1, trivial⟩
/-- methods whose outcome is known: what is known is so -/
def re_Pok (V : re_V) (O : re_K) (N : re_N) (G : re_G) (l : Launch) (D : va_G) (tys : List (ClassId × FieldType)) (cA : Nat → ClassId) (B0 : Nat) : Prop :=
  ∀ (y' : Nat) (as : List Value) (h : re_H) (a : re_Res), O.2.2.2 y' as h = some a → ∀ (ad : List Nat) (ws : va_W) (asC : List Value), re_rs V ad as asC →
  vx_Met l (re_yn N y') (re_ws N G y') ({ frames := a.2.2.2.2.2.1, cells := a.2.2.2.1, slots := a.2.2.2.2.1, locals := a.2.2.2.2.2.2 }) (re_Pc V N D tys cA B0 asC ad h ws) (re_Q V N D cA B0 ad a.1 a.2.1 a.2.2.1) (re_XQ V N D cA B0 ad a.1 a.2.2.1) a.2.2.2.1 a.2.2.2.2.1 (fun q => B0 ≤ q)
