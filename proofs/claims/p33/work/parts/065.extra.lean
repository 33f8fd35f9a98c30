/-! Comparisons of references; answers for arithmetic on what nobody looks at; the script. -/
def re_rq (V : re_V) (ad : List Nat) (v : Value) (r : Option Nat) : Prop := re_rv V ad v (va_rf r)
/-- two abstract references: the same one? -/
def re_seq (u v : Value) : Option Bool := match u, v with
  | .null, .null => some true
  | .ref i, .ref j => some (Nat.beq i j)
  | .null, .ref _ => some false
  | .ref _, .null => some false
  | .null, .retAddr _ => some false
  | .retAddr _, .null => some false
  | .retAddr m, .retAddr n => bif Nat.beq m n then some true else none
  | _, _ => none
def re_acm (pc : Nat) (st : List Value) (ins : Instr) : Option (Nat × List Value) := match ins with
  | .if_acmp cd off => match st, re_jmp pc off with
    | v :: u :: r, some t => match re_seq u v with
      | some b => some (bif (match cd with | .eq => b | .ne => !b) then t else pc + 3, r)
      | none => none
    | _, _ => none
  | _ => none
/-- what the machine's arithmetic is, on what is known -/
def re_b2 (ins : Instr) (u v : Value) : Option Value := match ins with
  | .iand => match u, v with
    | .int x, .int y => some (.int (x &&& y))
    | _, _ => none
  | .ishr => match u, v with
    | .int x, .int y => some (.int (x >>> (y &&& 31)))
    | _, _ => none
  | .land => match u, v with
    | .long x, .long y => some (.long (x &&& y))
    | _, _ => none
  | .lor => match u, v with
    | .long x, .long y => some (.long (x ||| y))
    | _, _ => none
  | .lshl => match u, v with
    | .long x, .int y => some (.long (x <<< (y.toInt64 &&& 63)))
    | _, _ => none
  | .i2l => match u with
    | .int x => some (.long x.toInt64)
    | _ => none
  | _ => none
abbrev re_A : Type := Instr → Value → Value → Option Value
def re_Aok (V : re_V) (OA : re_A) : Prop := ∀ (ins : Instr) (u v r : Value) (ad : List Nat) (cu cv : Value), OA ins u v = some r → re_rv V ad u cu → re_rv V ad v cv → ∃ cr, re_b2 ins cu cv = some cr ∧ re_rv V ad r cr
def re_ora (OA : re_A) (pc : Nat) (st : List Value) (ins : Instr) : Option (Nat × List Value) := match ins with
  | .i2l => match st with
    | u :: r => match OA .i2l u .null with
      | some w => some (pc + 1, w :: r)
      | none => none
    | _ => none
  | .iand => match st with
    | v :: u :: r => match OA .iand u v with
      | some w => some (pc + 1, w :: r)
      | none => none
    | _ => none
  | .ishr => match st with
    | v :: u :: r => match OA .ishr u v with
      | some w => some (pc + 1, w :: r)
      | none => none
    | _ => none
  | .land => match st with
    | v :: u :: r => match OA .land u v with
      | some w => some (pc + 1, w :: r)
      | none => none
    | _ => none
  | .lor => match st with
    | v :: u :: r => match OA .lor u v with
      | some w => some (pc + 1, w :: r)
      | none => none
    | _ => none
  | .lshl => match st with
    | v :: u :: r => match OA .lshl u v with
      | some w => some (pc + 1, w :: r)
      | none => none
    | _ => none
  | _ => none
/-- the script is the outside reference 2 -/
def re_scr (SC : List Value) (pc : Nat) (st : List Value) (ins : Instr) : Option (Nat × List Value) := match ins with
  | .arraylength => match st with
    | .retAddr 2 :: r => some (pc + 1, .int (Int32.ofNat SC.length) :: r)
    | _ => none
  | .iaload => match st with
    | .int x :: .retAddr 2 :: r => if re_in x SC.length = true then (match SC[x.toNatClampNeg]? with
      | some v => some (pc + 1, v :: r)
      | none => none) else none
    | _ => none
  | _ => none
def re_Sok (V : re_V) (SC : List Value) : Prop := SC.length = V.2.2.2.1 ∧ ∀ (ad : List Nat) (j : Nat) (v : Value), SC[j]? = some v → re_rv V ad v (.int (V.2.2.2.2 j))
section REY
variable {V : re_V} {p : Program} {l : Launch} {e : Env} {R : Room} {s : State} {m : MethodId} {args : Array Value} {below : List Frame} {meth : Method} {c : Code} {H : Heap} {locs : List Loc} {cells slots : Nat} {Q : State → Prop} {cc : ByteArray} {pc : Nat} {ls : Array Slot}
theorem re_scr_ok (hx : p.tables.exec = Jvm.exec) (hb : c.code = cc) {SC : List Value} (hSC : re_Sok V SC) {A : Nat → Prop} {H0 : Heap} (hX : va_X (V.1 2) V.2.2.2.1 V.2.2.2.2 s H0) (hbl : V.1 2 < H0.size) (hbA : ¬ A (V.1 2)) (hS : va_S A H0 H locs) {ins : Instr} {len : Nat} {st sc : List Value} {ad : List Nat} {q : Nat × List Value}
    (hdg0 : decode cc pc = .ok (ins, len)) (hlen : re_len ins = 0 ∨ len = re_len ins) (hq : re_scr SC pc st ins = some q) (rs : re_rs V ad st sc)
    (kk : ∀ sc' : List Value, re_rs V ad q.2 sc' → W p l e R s m args below meth c H locs cells slots Q (F0 m q.1 ls sc')) : W p l e R s m args below meth c H locs cells slots Q (F0 m pc ls sc) := by
  cases ins
  case arraylength =>
    simp only [re_scr] at hq
    have hdg : decode cc pc = .ok (.arraylength, 1) := hlen.elim (fun q => absurd q (by simp [re_len])) (fun q => by rw [hdg0, q]; rfl)
    split at hq
    next r =>
      cases hq
      obtain ⟨sr, rfl, rs1⟩ := re_rs_x rs
      refine va_slen hx hb hX hbl hbA hS hdg (kk _ ⟨?_, rs1⟩)
      show Value.int _ = Value.int _
      rw [hSC.1]
    next => cases hq
  case iaload =>
    simp only [re_scr] at hq
    have hdg : decode cc pc = .ok (.iaload, 1) := hlen.elim (fun q => absurd q (by simp [re_len])) (fun q => by rw [hdg0, q]; rfl)
    split at hq
    next x r =>
      split at hq
      next hin =>
        split at hq
        next v hv =>
          cases hq
          obtain ⟨sr, rfl, rs1⟩ := re_rs_i rs
          obtain ⟨sr, rfl, rs2⟩ := re_rs_x rs1
          exact va_sld hx hb hX hbl hbA hS (by rw [← hSC.1]; exact re_in_ok hin) hdg (kk _ ⟨hSC.2 _ _ _ hv, rs2⟩)
        next => cases hq
      next => cases hq
    next => cases hq
  all_goals (exact absurd hq (by simp [re_scr]))
theorem re_ora_ok (hx : p.tables.exec = Jvm.exec) (hb : c.code = cc) {OA : re_A} (hA : re_Aok V OA) {ins : Instr} {len : Nat} {st sc : List Value} {ad : List Nat} {q : Nat × List Value}
    (hdg0 : decode cc pc = .ok (ins, len)) (hlen : re_len ins = 0 ∨ len = re_len ins) (hq : re_ora OA pc st ins = some q) (rs : re_rs V ad st sc)
    (kk : ∀ sc' : List Value, re_rs V ad q.2 sc' → W p l e R s m args below meth c H locs cells slots Q (F0 m q.1 ls sc')) : W p l e R s m args below meth c H locs cells slots Q (F0 m pc ls sc) := by
  cases ins
  case i2l =>
    simp only [re_ora] at hq
    have hdg : decode cc pc = .ok (.i2l, 1) := hlen.elim (fun q => absurd q (by simp [re_len])) (fun q => by rw [hdg0, q]; rfl)
    split at hq
    next u r =>
      split at hq
      next w hw =>
        cases hq
        obtain ⟨cu, sr, rfl, h1, rs1⟩ := re_rs_cons rs
        obtain ⟨cr, e1, e2⟩ := hA _ _ _ _ ad cu .null hw h1 rfl
        simp only [re_b2] at e1
        split at e1
        next x => cases e1; exact lv_i2l hx hb hdg rfl (kk _ ⟨e2, rs1⟩)
        next => cases e1
      next => cases hq
    next => cases hq
  case iand =>
    simp only [re_ora] at hq
    have hdg : decode cc pc = .ok (.iand, 1) := hlen.elim (fun q => absurd q (by simp [re_len])) (fun q => by rw [hdg0, q]; rfl)
    split at hq
    next v u r =>
      split at hq
      next w hw =>
        cases hq
        obtain ⟨cv, s1, rfl, h1, rs1⟩ := re_rs_cons rs
        obtain ⟨cu, s2, rfl, h2, rs2⟩ := re_rs_cons rs1
        obtain ⟨cr, e1, e2⟩ := hA _ _ _ _ ad cu cv hw h2 h1
        simp only [re_b2] at e1
        split at e1
        next x y => cases e1; exact lv_iand hx hb hdg (kk _ ⟨e2, rs2⟩)
        next => cases e1
      next => cases hq
    next => cases hq
  case ishr =>
    simp only [re_ora] at hq
    have hdg : decode cc pc = .ok (.ishr, 1) := hlen.elim (fun q => absurd q (by simp [re_len])) (fun q => by rw [hdg0, q]; rfl)
    split at hq
    next v u r =>
      split at hq
      next w hw =>
        cases hq
        obtain ⟨cv, s1, rfl, h1, rs1⟩ := re_rs_cons rs
        obtain ⟨cu, s2, rfl, h2, rs2⟩ := re_rs_cons rs1
        obtain ⟨cr, e1, e2⟩ := hA _ _ _ _ ad cu cv hw h2 h1
        simp only [re_b2] at e1
        split at e1
        next x y => cases e1; exact lv_ishr hx hb hdg (kk _ ⟨e2, rs2⟩)
        next => cases e1
      next => cases hq
    next => cases hq
  case land =>
    simp only [re_ora] at hq
    have hdg : decode cc pc = .ok (.land, 1) := hlen.elim (fun q => absurd q (by simp [re_len])) (fun q => by rw [hdg0, q]; rfl)
    split at hq
    next v u r =>
      split at hq
      next w hw =>
        cases hq
        obtain ⟨cv, s1, rfl, h1, rs1⟩ := re_rs_cons rs
        obtain ⟨cu, s2, rfl, h2, rs2⟩ := re_rs_cons rs1
        obtain ⟨cr, e1, e2⟩ := hA _ _ _ _ ad cu cv hw h2 h1
        simp only [re_b2] at e1
        split at e1
        next x y => cases e1; exact lv_land hx hb hdg (kk _ ⟨e2, rs2⟩)
        next => cases e1
      next => cases hq
    next => cases hq
  case lor =>
    simp only [re_ora] at hq
    have hdg : decode cc pc = .ok (.lor, 1) := hlen.elim (fun q => absurd q (by simp [re_len])) (fun q => by rw [hdg0, q]; rfl)
    split at hq
    next v u r =>
      split at hq
      next w hw =>
        cases hq
        obtain ⟨cv, s1, rfl, h1, rs1⟩ := re_rs_cons rs
        obtain ⟨cu, s2, rfl, h2, rs2⟩ := re_rs_cons rs1
        obtain ⟨cr, e1, e2⟩ := hA _ _ _ _ ad cu cv hw h2 h1
        simp only [re_b2] at e1
        split at e1
        next x y => cases e1; exact lv_lor hx hb hdg (kk _ ⟨e2, rs2⟩)
        next => cases e1
      next => cases hq
    next => cases hq
  case lshl =>
    simp only [re_ora] at hq
    have hdg : decode cc pc = .ok (.lshl, 1) := hlen.elim (fun q => absurd q (by simp [re_len])) (fun q => by rw [hdg0, q]; rfl)
    split at hq
    next v u r =>
      split at hq
      next w hw =>
        cases hq
        obtain ⟨cv, s1, rfl, h1, rs1⟩ := re_rs_cons rs
        obtain ⟨cu, s2, rfl, h2, rs2⟩ := re_rs_cons rs1
        obtain ⟨cr, e1, e2⟩ := hA _ _ _ _ ad cu cv hw h2 h1
        simp only [re_b2] at e1
        split at e1
        next x y => cases e1; exact lv_lshl hx hb hdg rfl (kk _ ⟨e2, rs2⟩)
        next => cases e1
      next => cases hq
    next => cases hq
  all_goals (exact absurd hq (by simp [re_ora]))
theorem re_acm_ok (hx : p.tables.exec = Jvm.exec) (hb : c.code = cc) {ins : Instr} {len : Nat} {st sc : List Value} {ad : List Nat} {q : Nat × List Value} (hnd : ∀ i j a : Nat, ad[i]? = some a → ad[j]? = some a → i = j)
    (hdg0 : decode cc pc = .ok (ins, len)) (hlen : re_len ins = 0 ∨ len = re_len ins) (hq : re_acm pc st ins = some q) (rs : re_rs V ad st sc)
    (kk : ∀ sc' : List Value, re_rs V ad q.2 sc' → W p l e R s m args below meth c H locs cells slots Q (F0 m q.1 ls sc')) : W p l e R s m args below meth c H locs cells slots Q (F0 m pc ls sc) := by
  cases ins
  case if_acmp cd off =>
    simp only [re_acm] at hq
    have hdg : decode cc pc = .ok (.if_acmp cd off, 3) := hlen.elim (fun q => absurd q (by simp [re_len])) (fun q => by rw [hdg0, q]; rfl)
    split at hq
    next v u r t ht =>
      split at hq
      next b hb9 =>
        cases hq
        obtain ⟨wv, s1, rfl, h1, rs1⟩ := re_rs_cons rs
        obtain ⟨wu, s2, rfl, h2, rs2⟩ := re_rs_cons rs1
        have key : ∃ ru rv : Option Nat, wu = va_rf ru ∧ wv = va_rf rv ∧ decide (ru = rv) = b := by
          unfold re_seq at hb9
          split at hb9
          next => cases hb9; exact ⟨none, none, h2, h1, rfl⟩
          next i j =>
            cases hb9
            obtain ⟨a1, k1, rfl⟩ := h2
            obtain ⟨a2, k2, rfl⟩ := h1
            refine ⟨some a1, some a2, rfl, rfl, ?_⟩
            cases hij : Nat.beq i j with
            | true =>
              cases Nat.eq_of_beq_eq_true hij
              cases k1.symm.trans k2
              exact decide_eq_true rfl
            | false =>
              refine decide_eq_false (fun z => ?_)
              cases Option.some.inj z
              exact absurd (hnd i j _ k1 k2) (Nat.ne_of_beq_eq_false hij)
          next j =>
            cases hb9
            obtain ⟨a2, k2, rfl⟩ := h1
            exact ⟨none, some a2, h2, rfl, rfl⟩
          next i =>
            cases hb9
            obtain ⟨a1, k1, rfl⟩ := h2
            exact ⟨some a1, none, rfl, h1, rfl⟩
          next n => cases hb9; exact ⟨none, some _, h2, h1, rfl⟩
          next n => cases hb9; exact ⟨some _, none, h2, h1, rfl⟩
          next m n =>
            cases hmn : Nat.beq m n with
            | true =>
              rw [hmn] at hb9
              cases hb9
              cases Nat.eq_of_beq_eq_true hmn
              exact ⟨some _, some _, h2, h1, decide_eq_true rfl⟩
            | false => rw [hmn] at hb9; cases hb9
          next => cases hb9
        obtain ⟨ru, rv, rfl, rfl, hd⟩ := key
        cases cd with
        | eq =>
          refine lv_acmp_eq hx hb hdg (re_jmp_ok ht) (fun z => ?_) (fun z => ?_)
          · rw [← hd, decide_eq_true z] at kk; exact kk _ rs2
          · rw [← hd, decide_eq_false z] at kk; exact kk _ rs2
        | ne =>
          refine lv_acmp_ne hx hb hdg (re_jmp_ok ht) (fun z => ?_) (fun z => ?_)
          · rw [← hd, decide_eq_false z] at kk; exact kk _ rs2
          · rw [← hd, decide_eq_true z] at kk; exact kk _ rs2
      next => cases hq
    next => cases hq
  all_goals (exact absurd hq (by simp [re_acm]))
end REY
