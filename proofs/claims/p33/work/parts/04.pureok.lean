/-! re_pure is what the machine does. -/
section REP
variable {V : re_V}
theorem re_rs_i {ad : List Nat} {y : Int32} {st sc : List Value} (h : re_rs V ad (.int y :: st) sc) : ∃ sr, sc = .int y :: sr ∧ re_rs V ad st sr := by
  obtain ⟨w, sr, rfl, e, h2⟩ := re_rs_cons h
  exact ⟨sr, by rw [show w = .int y from e], h2⟩
theorem re_rs_l {ad : List Nat} {y : Int64} {st sc : List Value} (h : re_rs V ad (.long y :: st) sc) : ∃ sr, sc = .long y :: sr ∧ re_rs V ad st sr := by
  obtain ⟨w, sr, rfl, e, h2⟩ := re_rs_cons h
  exact ⟨sr, by rw [show w = .long y from e], h2⟩
theorem re_rs_n {ad : List Nat} {st sc : List Value} (h : re_rs V ad (.null :: st) sc) : ∃ sr, sc = .null :: sr ∧ re_rs V ad st sr := by
  obtain ⟨w, sr, rfl, e, h2⟩ := re_rs_cons h
  exact ⟨sr, by rw [show w = .null from e], h2⟩
theorem re_rs_r {ad : List Nat} {i : Nat} {st sc : List Value} (h : re_rs V ad (.ref i :: st) sc) : ∃ a sr, sc = .ref a :: sr ∧ ad[i]? = some a ∧ re_rs V ad st sr := by
  obtain ⟨w, sr, rfl, e, h2⟩ := re_rs_cons h
  obtain ⟨a, h3, rfl⟩ := e
  exact ⟨a, sr, rfl, h3, h2⟩
theorem re_rs_f {ad : List Nat} {n : UInt32} {st sc : List Value} (h : re_rs V ad (.float n :: st) sc) : ∃ sr, sc = .int (V.2.1 n.toNat) :: sr ∧ re_rs V ad st sr := by
  obtain ⟨w, sr, rfl, e, h2⟩ := re_rs_cons h
  exact ⟨sr, by rw [show w = .int (V.2.1 n.toNat) from e], h2⟩
theorem re_rs_d {ad : List Nat} {n : UInt64} {st sc : List Value} (h : re_rs V ad (.double n :: st) sc) : ∃ sr, sc = .long (V.2.2.1 n.toNat) :: sr ∧ re_rs V ad st sr := by
  obtain ⟨w, sr, rfl, e, h2⟩ := re_rs_cons h
  exact ⟨sr, by rw [show w = .long (V.2.2.1 n.toNat) from e], h2⟩
theorem re_rs_x {ad : List Nat} {n : Nat} {st sc : List Value} (h : re_rs V ad (.retAddr n :: st) sc) : ∃ sr, sc = .ref (V.1 n) :: sr ∧ re_rs V ad st sr := by
  obtain ⟨w, sr, rfl, e, h2⟩ := re_rs_cons h
  exact ⟨sr, by rw [show w = .ref (V.1 n) from e], h2⟩
/-- the answers are right -/
def re_Ook (V : re_V) (O : re_O) : Prop := ∀ (cd : Jvm.ClassFile.Cond) (u v : Value) (b : Bool) (x y : Int32), O cd u v = some b → re_rv V [] u (.int x) → re_rv V [] v (.int y) → re_icond cd x y = b
variable {p : Program} {l : Launch} {e : Env} {R : Room} {s : State} {m : MethodId} {args : Array Value} {below : List Frame} {meth : Method} {c : Code} {H : Heap} {locs : List Loc} {cells slots : Nat} {Q : State → Prop} {cc : ByteArray} {pc : Nat} {ls : Array Slot} {O : re_O}
theorem re_icmp_ok (hx : p.tables.exec = Jvm.exec) (hb : c.code = cc) {x y : Int32} {cd : Jvm.ClassFile.Cond} {off : Int} {tgt : Nat} {rest : List Value} (hdg : decode cc pc = .ok (.if_icmp cd off, 3)) (ht : (pc : Int) + off = (tgt : Int))
    (k : W p l e R s m args below meth c H locs cells slots Q (F0 m (bif re_icond cd x y then tgt else pc + 3) ls rest)) : W p l e R s m args below meth c H locs cells slots Q (F0 m pc ls (.int y :: .int x :: rest)) := by
  cases cd
  · refine lv_icmp_eq hx hb hdg ht (fun q => ?_) (fun q => ?_)
    · rw [show re_icond .eq x y = true from decide_eq_true q] at k; exact k
    · rw [show re_icond .eq x y = false from decide_eq_false q] at k; exact k
  · refine lv_icmp_ne hx hb hdg ht (fun q => ?_) (fun q => ?_)
    · rw [show re_icond .ne x y = true from decide_eq_true q] at k; exact k
    · rw [show re_icond .ne x y = false from decide_eq_false (fun z => z q)] at k; exact k
  · refine lv_icmp_lt hx hb hdg ht (fun q => ?_) (fun q => ?_)
    · rw [show re_icond .lt x y = true from decide_eq_true q] at k; exact k
    · rw [show re_icond .lt x y = false from decide_eq_false q] at k; exact k
  · refine lv_icmp_ge hx hb hdg ht (fun q => ?_) (fun q => ?_)
    · rw [show re_icond .ge x y = true from decide_eq_true q] at k; exact k
    · rw [show re_icond .ge x y = false from decide_eq_false q] at k; exact k
  · refine lv_icmp_gt hx hb hdg ht (fun q => ?_) (fun q => ?_)
    · rw [show re_icond .gt x y = true from decide_eq_true q] at k; exact k
    · rw [show re_icond .gt x y = false from decide_eq_false q] at k; exact k
  · refine lv_icmp_le hx hb hdg ht (fun q => ?_) (fun q => ?_)
    · rw [show re_icond .le x y = true from decide_eq_true q] at k; exact k
    · rw [show re_icond .le x y = false from decide_eq_false q] at k; exact k
theorem re_if_ok (hx : p.tables.exec = Jvm.exec) (hb : c.code = cc) {x : Int32} {cd : Jvm.ClassFile.Cond} {off : Int} {tgt : Nat} {rest : List Value} (hdg : decode cc pc = .ok (.ifCond cd off, 3)) (ht : (pc : Int) + off = (tgt : Int))
    (k : W p l e R s m args below meth c H locs cells slots Q (F0 m (bif re_icond cd x 0 then tgt else pc + 3) ls rest)) : W p l e R s m args below meth c H locs cells slots Q (F0 m pc ls (.int x :: rest)) := by
  cases cd
  · refine lv_if_eq hx hb hdg ht (fun q => ?_) (fun q => ?_)
    · rw [show re_icond .eq x 0 = true from decide_eq_true q] at k; exact k
    · rw [show re_icond .eq x 0 = false from decide_eq_false q] at k; exact k
  · refine lv_if_ne hx hb hdg ht (fun q => ?_) (fun q => ?_)
    · rw [show re_icond .ne x 0 = true from decide_eq_true q] at k; exact k
    · rw [show re_icond .ne x 0 = false from decide_eq_false (fun z => z q)] at k; exact k
  · refine lv_if_lt hx hb hdg ht (fun q => ?_) (fun q => ?_)
    · rw [show re_icond .lt x 0 = true from decide_eq_true q] at k; exact k
    · rw [show re_icond .lt x 0 = false from decide_eq_false q] at k; exact k
  · refine lv_if_ge hx hb hdg ht (fun q => ?_) (fun q => ?_)
    · rw [show re_icond .ge x 0 = true from decide_eq_true q] at k; exact k
    · rw [show re_icond .ge x 0 = false from decide_eq_false q] at k; exact k
  · refine lv_if_gt hx hb hdg ht (fun q => ?_) (fun q => ?_)
    · rw [show re_icond .gt x 0 = true from decide_eq_true q] at k; exact k
    · rw [show re_icond .gt x 0 = false from decide_eq_false q] at k; exact k
  · refine lv_if_le hx hb hdg ht (fun q => ?_) (fun q => ?_)
    · rw [show re_icond .le x 0 = true from decide_eq_true q] at k; exact k
    · rw [show re_icond .le x 0 = false from decide_eq_false q] at k; exact k
theorem re_pure_ok (hx : p.tables.exec = Jvm.exec) (hb : c.code = cc) (hO : re_Ook V O) {nL : Nat} {ad : List Nat} {ins : Instr} {len : Nat} {lv lc lv' : List (Nat × Value)} {st sc st' : List Value} {pc' : Nat}
    (hdg0 : decode cc pc = .ok (ins, len)) (hlen : re_len ins = 0 ∨ len = re_len ins) (h : re_pure O nL pc lv st ins = some (pc', lv', st')) (hl : lv_has ls nL lc) (rl : re_rl V ad lv lc) (rs : re_rs V ad st sc)
    (kk : ∀ (ls' : Array Slot) (lc' : List (Nat × Value)) (sc' : List Value), lv_has ls' nL lc' → re_rl V ad lv' lc' → re_rs V ad st' sc' → W p l e R s m args below meth c H locs cells slots Q (F0 m pc' ls' sc')) : W p l e R s m args below meth c H locs cells slots Q (F0 m pc ls sc) := by
  cases ins
  case iconst n =>
    simp only [re_pure] at h
    have hdg : decode cc pc = .ok (.iconst n, 1) := hlen.elim (fun q => absurd q (by simp [re_len])) (fun q => by rw [hdg0, q]; rfl)
    cases h
    exact lv_iconst hx hb hdg rfl (kk _ _ _ hl rl ⟨rfl, rs⟩)
  case bipush n =>
    simp only [re_pure] at h
    have hdg : decode cc pc = .ok (.bipush n, 2) := hlen.elim (fun q => absurd q (by simp [re_len])) (fun q => by rw [hdg0, q]; rfl)
    cases h
    exact lv_bipush hx hb hdg rfl (kk _ _ _ hl rl ⟨rfl, rs⟩)
  case sipush n =>
    simp only [re_pure] at h
    have hdg : decode cc pc = .ok (.sipush n, 3) := hlen.elim (fun q => absurd q (by simp [re_len])) (fun q => by rw [hdg0, q]; rfl)
    cases h
    exact lv_sipush hx hb hdg rfl (kk _ _ _ hl rl ⟨rfl, rs⟩)
  case lconst n =>
    simp only [re_pure] at h
    have hdg : decode cc pc = .ok (.lconst n, 1) := hlen.elim (fun q => absurd q (by simp [re_len])) (fun q => by rw [hdg0, q]; rfl)
    cases h
    exact lv_lconst hx hb hdg rfl (kk _ _ _ hl rl ⟨rfl, rs⟩)
  case aconst_null  =>
    simp only [re_pure] at h
    have hdg : decode cc pc = .ok (.aconst_null, 1) := hlen.elim (fun q => absurd q (by simp [re_len])) (fun q => by rw [hdg0, q]; rfl)
    cases h
    exact lv_null hx hb hdg (kk _ _ _ hl rl ⟨rfl, rs⟩)
  case iload i =>
    simp only [re_pure] at h
    have hdg : decode cc pc = .ok (.iload i, 2) := hlen.elim (fun q => absurd q (by simp [re_len])) (fun q => by rw [hdg0, q]; rfl)
    split at h
    next x q =>
      cases h
      obtain ⟨k9, w, e1, e2⟩ := re_rl_lk rl q
      cases (show w = _ from e2)
      exact lv_iload hx hb hdg (lv_at hl k9 e1) (kk _ _ _ hl rl ⟨rfl, rs⟩)
    next x q =>
      cases h
      obtain ⟨k9, w, e1, e2⟩ := re_rl_lk rl q
      cases (show w = _ from e2)
      exact lv_iload hx hb hdg (lv_at hl k9 e1) (kk _ _ _ hl rl ⟨rfl, rs⟩)
    next => cases h
  case iload_n k =>
    simp only [re_pure] at h
    have hdg : decode cc pc = .ok (.iload_n k, 1) := hlen.elim (fun q => absurd q (by simp [re_len])) (fun q => by rw [hdg0, q]; rfl)
    split at h
    next x q =>
      cases h
      obtain ⟨k9, w, e1, e2⟩ := re_rl_lk rl q
      cases (show w = _ from e2)
      exact lv_iload_n hx hb hdg rfl (lv_at hl k9 e1) (kk _ _ _ hl rl ⟨rfl, rs⟩)
    next x q =>
      cases h
      obtain ⟨k9, w, e1, e2⟩ := re_rl_lk rl q
      cases (show w = _ from e2)
      exact lv_iload_n hx hb hdg rfl (lv_at hl k9 e1) (kk _ _ _ hl rl ⟨rfl, rs⟩)
    next => cases h
  case lload i =>
    simp only [re_pure] at h
    have hdg : decode cc pc = .ok (.lload i, 2) := hlen.elim (fun q => absurd q (by simp [re_len])) (fun q => by rw [hdg0, q]; rfl)
    split at h
    next x q =>
      cases h
      obtain ⟨k9, w, e1, e2⟩ := re_rl_lk rl q
      cases (show w = _ from e2)
      exact lv_lload hx hb hdg (lv_at hl k9 e1) (kk _ _ _ hl rl ⟨rfl, rs⟩)
    next x q =>
      cases h
      obtain ⟨k9, w, e1, e2⟩ := re_rl_lk rl q
      cases (show w = _ from e2)
      exact lv_lload hx hb hdg (lv_at hl k9 e1) (kk _ _ _ hl rl ⟨rfl, rs⟩)
    next => cases h
  case lload_n k =>
    simp only [re_pure] at h
    have hdg : decode cc pc = .ok (.lload_n k, 1) := hlen.elim (fun q => absurd q (by simp [re_len])) (fun q => by rw [hdg0, q]; rfl)
    split at h
    next x q =>
      cases h
      obtain ⟨k9, w, e1, e2⟩ := re_rl_lk rl q
      cases (show w = _ from e2)
      exact lv_lload_n hx hb hdg rfl (lv_at hl k9 e1) (kk _ _ _ hl rl ⟨rfl, rs⟩)
    next x q =>
      cases h
      obtain ⟨k9, w, e1, e2⟩ := re_rl_lk rl q
      cases (show w = _ from e2)
      exact lv_lload_n hx hb hdg rfl (lv_at hl k9 e1) (kk _ _ _ hl rl ⟨rfl, rs⟩)
    next => cases h
  case aload i =>
    simp only [re_pure] at h
    have hdg : decode cc pc = .ok (.aload i, 2) := hlen.elim (fun q => absurd q (by simp [re_len])) (fun q => by rw [hdg0, q]; rfl)
    split at h
    next x q =>
      cases h
      obtain ⟨k9, w, e1, a9, e2, rfl⟩ := re_rl_lk rl q
      exact lv_aload hx hb hdg (lv_at hl k9 e1) (kk _ _ _ hl rl ⟨⟨a9, e2, rfl⟩, rs⟩)
    next q =>
      cases h
      obtain ⟨k9, w, e1, e2⟩ := re_rl_lk rl q
      cases (show w = _ from e2)
      exact lv_aloadN hx hb hdg (lv_at hl k9 e1) (kk _ _ _ hl rl ⟨rfl, rs⟩)
    next x q =>
      cases h
      obtain ⟨k9, w, e1, e2⟩ := re_rl_lk rl q
      cases (show w = _ from e2)
      exact lv_aload hx hb hdg (lv_at hl k9 e1) (kk _ _ _ hl rl ⟨rfl, rs⟩)
    next => cases h
  case aload_n k =>
    simp only [re_pure] at h
    have hdg : decode cc pc = .ok (.aload_n k, 1) := hlen.elim (fun q => absurd q (by simp [re_len])) (fun q => by rw [hdg0, q]; rfl)
    split at h
    next x q =>
      cases h
      obtain ⟨k9, w, e1, a9, e2, rfl⟩ := re_rl_lk rl q
      exact lv_aload_n hx hb hdg rfl (lv_at hl k9 e1) (kk _ _ _ hl rl ⟨⟨a9, e2, rfl⟩, rs⟩)
    next q =>
      cases h
      obtain ⟨k9, w, e1, e2⟩ := re_rl_lk rl q
      cases (show w = _ from e2)
      exact lv_aload_nN hx hb hdg rfl (lv_at hl k9 e1) (kk _ _ _ hl rl ⟨rfl, rs⟩)
    next x q =>
      cases h
      obtain ⟨k9, w, e1, e2⟩ := re_rl_lk rl q
      cases (show w = _ from e2)
      exact lv_aload_n hx hb hdg rfl (lv_at hl k9 e1) (kk _ _ _ hl rl ⟨rfl, rs⟩)
    next => cases h
  case istore i =>
    simp only [re_pure] at h
    have hdg : decode cc pc = .ok (.istore i, 2) := hlen.elim (fun q => absurd q (by simp [re_len])) (fun q => by rw [hdg0, q]; rfl)
    split at h
    next x r =>
      split at h
      next hi =>
        cases h
        obtain ⟨_, rfl, rs1⟩ := re_rs_i rs
        exact lv_istore hx hb hdg hl hi rfl (fun ls9 hl9 => kk _ _ _ hl9 (re_rl_s1 _ rl rfl) rs1)
      next => cases h
    next x r =>
      split at h
      next hi =>
        cases h
        obtain ⟨_, rfl, rs1⟩ := re_rs_f rs
        exact lv_istore hx hb hdg hl hi rfl (fun ls9 hl9 => kk _ _ _ hl9 (re_rl_s1 _ rl rfl) rs1)
      next => cases h
    next => cases h
  case istore_n k =>
    simp only [re_pure] at h
    have hdg : decode cc pc = .ok (.istore_n k, 1) := hlen.elim (fun q => absurd q (by simp [re_len])) (fun q => by rw [hdg0, q]; rfl)
    split at h
    next x r =>
      split at h
      next hi =>
        cases h
        obtain ⟨_, rfl, rs1⟩ := re_rs_i rs
        exact lv_istore_n hx hb hdg rfl hl hi rfl (fun ls9 hl9 => kk _ _ _ hl9 (re_rl_s1 _ rl rfl) rs1)
      next => cases h
    next x r =>
      split at h
      next hi =>
        cases h
        obtain ⟨_, rfl, rs1⟩ := re_rs_f rs
        exact lv_istore_n hx hb hdg rfl hl hi rfl (fun ls9 hl9 => kk _ _ _ hl9 (re_rl_s1 _ rl rfl) rs1)
      next => cases h
    next => cases h
  case lstore i =>
    simp only [re_pure] at h
    have hdg : decode cc pc = .ok (.lstore i, 2) := hlen.elim (fun q => absurd q (by simp [re_len])) (fun q => by rw [hdg0, q]; rfl)
    split at h
    next x r =>
      split at h
      next hi =>
        cases h
        obtain ⟨_, rfl, rs1⟩ := re_rs_l rs
        exact lv_lstore hx hb hdg hl hi rfl (fun ls9 hl9 => kk _ _ _ hl9 (re_rl_s2 _ rl rfl) rs1)
      next => cases h
    next x r =>
      split at h
      next hi =>
        cases h
        obtain ⟨_, rfl, rs1⟩ := re_rs_d rs
        exact lv_lstore hx hb hdg hl hi rfl (fun ls9 hl9 => kk _ _ _ hl9 (re_rl_s2 _ rl rfl) rs1)
      next => cases h
    next => cases h
  case lstore_n k =>
    simp only [re_pure] at h
    have hdg : decode cc pc = .ok (.lstore_n k, 1) := hlen.elim (fun q => absurd q (by simp [re_len])) (fun q => by rw [hdg0, q]; rfl)
    split at h
    next x r =>
      split at h
      next hi =>
        cases h
        obtain ⟨_, rfl, rs1⟩ := re_rs_l rs
        exact lv_lstore_n hx hb hdg rfl hl hi rfl (fun ls9 hl9 => kk _ _ _ hl9 (re_rl_s2 _ rl rfl) rs1)
      next => cases h
    next x r =>
      split at h
      next hi =>
        cases h
        obtain ⟨_, rfl, rs1⟩ := re_rs_d rs
        exact lv_lstore_n hx hb hdg rfl hl hi rfl (fun ls9 hl9 => kk _ _ _ hl9 (re_rl_s2 _ rl rfl) rs1)
      next => cases h
    next => cases h
  case astore i =>
    simp only [re_pure] at h
    have hdg : decode cc pc = .ok (.astore i, 2) := hlen.elim (fun q => absurd q (by simp [re_len])) (fun q => by rw [hdg0, q]; rfl)
    split at h
    next x r =>
      split at h
      next hi =>
        cases h
        obtain ⟨a9, _, rfl, e2, rs1⟩ := re_rs_r rs
        exact lv_astore hx hb hdg hl hi rfl (fun ls9 hl9 => kk _ _ _ hl9 (re_rl_s1 _ rl ⟨a9, e2, rfl⟩) rs1)
      next => cases h
    next r =>
      split at h
      next hi =>
        cases h
        obtain ⟨_, rfl, rs1⟩ := re_rs_n rs
        exact lv_astoreN hx hb hdg hl hi rfl (fun ls9 hl9 => kk _ _ _ hl9 (re_rl_s1 _ rl rfl) rs1)
      next => cases h
    next x r =>
      split at h
      next hi =>
        cases h
        obtain ⟨_, rfl, rs1⟩ := re_rs_x rs
        exact lv_astore hx hb hdg hl hi rfl (fun ls9 hl9 => kk _ _ _ hl9 (re_rl_s1 _ rl rfl) rs1)
      next => cases h
    next => cases h
  case astore_n k =>
    simp only [re_pure] at h
    have hdg : decode cc pc = .ok (.astore_n k, 1) := hlen.elim (fun q => absurd q (by simp [re_len])) (fun q => by rw [hdg0, q]; rfl)
    split at h
    next x r =>
      split at h
      next hi =>
        cases h
        obtain ⟨a9, _, rfl, e2, rs1⟩ := re_rs_r rs
        exact lv_astore_n hx hb hdg rfl hl hi rfl (fun ls9 hl9 => kk _ _ _ hl9 (re_rl_s1 _ rl ⟨a9, e2, rfl⟩) rs1)
      next => cases h
    next r =>
      split at h
      next hi =>
        cases h
        obtain ⟨_, rfl, rs1⟩ := re_rs_n rs
        exact lv_astore_nN hx hb hdg rfl hl hi rfl (fun ls9 hl9 => kk _ _ _ hl9 (re_rl_s1 _ rl rfl) rs1)
      next => cases h
    next x r =>
      split at h
      next hi =>
        cases h
        obtain ⟨_, rfl, rs1⟩ := re_rs_x rs
        exact lv_astore_n hx hb hdg rfl hl hi rfl (fun ls9 hl9 => kk _ _ _ hl9 (re_rl_s1 _ rl rfl) rs1)
      next => cases h
    next => cases h
  case iinc i n =>
    simp only [re_pure] at h
    have hdg : decode cc pc = .ok (.iinc i n, 3) := hlen.elim (fun q => absurd q (by simp [re_len])) (fun q => by rw [hdg0, q]; rfl)
    split at h
    next x q =>
      split at h
      next hi =>
        cases h
        obtain ⟨k9, w, e1, e2⟩ := re_rl_lk rl q
        cases (show w = _ from e2)
        exact lv_iinc hx hb hdg hl e1 rfl hi rfl (fun ls9 hl9 => kk _ _ _ hl9 (re_rl_s1 _ rl rfl) rs)
      next => cases h
    next => cases h
  case iadd  =>
    simp only [re_pure] at h
    have hdg : decode cc pc = .ok (.iadd, 1) := hlen.elim (fun q => absurd q (by simp [re_len])) (fun q => by rw [hdg0, q]; rfl)
    split at h
    next y x r =>
      cases h
      obtain ⟨_, rfl, rs1⟩ := re_rs_i rs
      obtain ⟨_, rfl, rs2⟩ := re_rs_i rs1
      exact lv_iadd hx hb hdg (kk _ _ _ hl rl ⟨rfl, rs2⟩)
    next => cases h
  case isub  =>
    simp only [re_pure] at h
    have hdg : decode cc pc = .ok (.isub, 1) := hlen.elim (fun q => absurd q (by simp [re_len])) (fun q => by rw [hdg0, q]; rfl)
    split at h
    next y x r =>
      cases h
      obtain ⟨_, rfl, rs1⟩ := re_rs_i rs
      obtain ⟨_, rfl, rs2⟩ := re_rs_i rs1
      exact lv_isub hx hb hdg (kk _ _ _ hl rl ⟨rfl, rs2⟩)
    next => cases h
  case imul  =>
    simp only [re_pure] at h
    have hdg : decode cc pc = .ok (.imul, 1) := hlen.elim (fun q => absurd q (by simp [re_len])) (fun q => by rw [hdg0, q]; rfl)
    split at h
    next y x r =>
      cases h
      obtain ⟨_, rfl, rs1⟩ := re_rs_i rs
      obtain ⟨_, rfl, rs2⟩ := re_rs_i rs1
      exact lv_imul hx hb hdg (kk _ _ _ hl rl ⟨rfl, rs2⟩)
    next => cases h
  case iand  =>
    simp only [re_pure] at h
    have hdg : decode cc pc = .ok (.iand, 1) := hlen.elim (fun q => absurd q (by simp [re_len])) (fun q => by rw [hdg0, q]; rfl)
    split at h
    next y x r =>
      cases h
      obtain ⟨_, rfl, rs1⟩ := re_rs_i rs
      obtain ⟨_, rfl, rs2⟩ := re_rs_i rs1
      exact lv_iand hx hb hdg (kk _ _ _ hl rl ⟨rfl, rs2⟩)
    next => cases h
  case ior  =>
    simp only [re_pure] at h
    have hdg : decode cc pc = .ok (.ior, 1) := hlen.elim (fun q => absurd q (by simp [re_len])) (fun q => by rw [hdg0, q]; rfl)
    split at h
    next y x r =>
      cases h
      obtain ⟨_, rfl, rs1⟩ := re_rs_i rs
      obtain ⟨_, rfl, rs2⟩ := re_rs_i rs1
      exact lv_ior hx hb hdg (kk _ _ _ hl rl ⟨rfl, rs2⟩)
    next => cases h
  case ixor  =>
    simp only [re_pure] at h
    have hdg : decode cc pc = .ok (.ixor, 1) := hlen.elim (fun q => absurd q (by simp [re_len])) (fun q => by rw [hdg0, q]; rfl)
    split at h
    next y x r =>
      cases h
      obtain ⟨_, rfl, rs1⟩ := re_rs_i rs
      obtain ⟨_, rfl, rs2⟩ := re_rs_i rs1
      exact lv_ixor hx hb hdg (kk _ _ _ hl rl ⟨rfl, rs2⟩)
    next => cases h
  case ishl  =>
    simp only [re_pure] at h
    have hdg : decode cc pc = .ok (.ishl, 1) := hlen.elim (fun q => absurd q (by simp [re_len])) (fun q => by rw [hdg0, q]; rfl)
    split at h
    next y x r =>
      cases h
      obtain ⟨_, rfl, rs1⟩ := re_rs_i rs
      obtain ⟨_, rfl, rs2⟩ := re_rs_i rs1
      exact lv_ishl hx hb hdg (kk _ _ _ hl rl ⟨rfl, rs2⟩)
    next => cases h
  case ishr  =>
    simp only [re_pure] at h
    have hdg : decode cc pc = .ok (.ishr, 1) := hlen.elim (fun q => absurd q (by simp [re_len])) (fun q => by rw [hdg0, q]; rfl)
    split at h
    next y x r =>
      cases h
      obtain ⟨_, rfl, rs1⟩ := re_rs_i rs
      obtain ⟨_, rfl, rs2⟩ := re_rs_i rs1
      exact lv_ishr hx hb hdg (kk _ _ _ hl rl ⟨rfl, rs2⟩)
    next => cases h
  case iushr  =>
    simp only [re_pure] at h
    have hdg : decode cc pc = .ok (.iushr, 1) := hlen.elim (fun q => absurd q (by simp [re_len])) (fun q => by rw [hdg0, q]; rfl)
    split at h
    next y x r =>
      cases h
      obtain ⟨_, rfl, rs1⟩ := re_rs_i rs
      obtain ⟨_, rfl, rs2⟩ := re_rs_i rs1
      exact lv_iushr hx hb hdg rfl (kk _ _ _ hl rl ⟨rfl, rs2⟩)
    next => cases h
  case irem  =>
    simp only [re_pure] at h
    have hdg : decode cc pc = .ok (.irem, 1) := hlen.elim (fun q => absurd q (by simp [re_len])) (fun q => by rw [hdg0, q]; rfl)
    split at h
    next y x r =>
      split at h
      next => cases h
      next hy =>
        cases h
        obtain ⟨_, rfl, rs1⟩ := re_rs_i rs
        obtain ⟨_, rfl, rs2⟩ := re_rs_i rs1
        exact lv_irem hx hb hdg hy (kk _ _ _ hl rl ⟨rfl, rs2⟩)
    next => cases h
  case idiv  =>
    simp only [re_pure] at h
    have hdg : decode cc pc = .ok (.idiv, 1) := hlen.elim (fun q => absurd q (by simp [re_len])) (fun q => by rw [hdg0, q]; rfl)
    split at h
    next y x r =>
      split at h
      next => cases h
      next hy =>
        cases h
        obtain ⟨_, rfl, rs1⟩ := re_rs_i rs
        obtain ⟨_, rfl, rs2⟩ := re_rs_i rs1
        exact lv_idiv hx hb hdg hy (kk _ _ _ hl rl ⟨rfl, rs2⟩)
    next => cases h
  case ladd  =>
    simp only [re_pure] at h
    have hdg : decode cc pc = .ok (.ladd, 1) := hlen.elim (fun q => absurd q (by simp [re_len])) (fun q => by rw [hdg0, q]; rfl)
    split at h
    next y x r =>
      cases h
      obtain ⟨_, rfl, rs1⟩ := re_rs_l rs
      obtain ⟨_, rfl, rs2⟩ := re_rs_l rs1
      exact lv_ladd hx hb hdg (kk _ _ _ hl rl ⟨rfl, rs2⟩)
    next => cases h
  case lsub  =>
    simp only [re_pure] at h
    have hdg : decode cc pc = .ok (.lsub, 1) := hlen.elim (fun q => absurd q (by simp [re_len])) (fun q => by rw [hdg0, q]; rfl)
    split at h
    next y x r =>
      cases h
      obtain ⟨_, rfl, rs1⟩ := re_rs_l rs
      obtain ⟨_, rfl, rs2⟩ := re_rs_l rs1
      exact lv_lsub hx hb hdg (kk _ _ _ hl rl ⟨rfl, rs2⟩)
    next => cases h
  case lmul  =>
    simp only [re_pure] at h
    have hdg : decode cc pc = .ok (.lmul, 1) := hlen.elim (fun q => absurd q (by simp [re_len])) (fun q => by rw [hdg0, q]; rfl)
    split at h
    next y x r =>
      cases h
      obtain ⟨_, rfl, rs1⟩ := re_rs_l rs
      obtain ⟨_, rfl, rs2⟩ := re_rs_l rs1
      exact lv_lmul hx hb hdg (kk _ _ _ hl rl ⟨rfl, rs2⟩)
    next => cases h
  case land  =>
    simp only [re_pure] at h
    have hdg : decode cc pc = .ok (.land, 1) := hlen.elim (fun q => absurd q (by simp [re_len])) (fun q => by rw [hdg0, q]; rfl)
    split at h
    next y x r =>
      cases h
      obtain ⟨_, rfl, rs1⟩ := re_rs_l rs
      obtain ⟨_, rfl, rs2⟩ := re_rs_l rs1
      exact lv_land hx hb hdg (kk _ _ _ hl rl ⟨rfl, rs2⟩)
    next => cases h
  case lor  =>
    simp only [re_pure] at h
    have hdg : decode cc pc = .ok (.lor, 1) := hlen.elim (fun q => absurd q (by simp [re_len])) (fun q => by rw [hdg0, q]; rfl)
    split at h
    next y x r =>
      cases h
      obtain ⟨_, rfl, rs1⟩ := re_rs_l rs
      obtain ⟨_, rfl, rs2⟩ := re_rs_l rs1
      exact lv_lor hx hb hdg (kk _ _ _ hl rl ⟨rfl, rs2⟩)
    next => cases h
  case lxor  =>
    simp only [re_pure] at h
    have hdg : decode cc pc = .ok (.lxor, 1) := hlen.elim (fun q => absurd q (by simp [re_len])) (fun q => by rw [hdg0, q]; rfl)
    split at h
    next y x r =>
      cases h
      obtain ⟨_, rfl, rs1⟩ := re_rs_l rs
      obtain ⟨_, rfl, rs2⟩ := re_rs_l rs1
      exact lv_lxor hx hb hdg (kk _ _ _ hl rl ⟨rfl, rs2⟩)
    next => cases h
  case lshl  =>
    simp only [re_pure] at h
    have hdg : decode cc pc = .ok (.lshl, 1) := hlen.elim (fun q => absurd q (by simp [re_len])) (fun q => by rw [hdg0, q]; rfl)
    split at h
    next y x r =>
      cases h
      obtain ⟨_, rfl, rs1⟩ := re_rs_i rs
      obtain ⟨_, rfl, rs2⟩ := re_rs_l rs1
      exact lv_lshl hx hb hdg rfl (kk _ _ _ hl rl ⟨rfl, rs2⟩)
    next => cases h
  case lshr  =>
    simp only [re_pure] at h
    have hdg : decode cc pc = .ok (.lshr, 1) := hlen.elim (fun q => absurd q (by simp [re_len])) (fun q => by rw [hdg0, q]; rfl)
    split at h
    next y x r =>
      cases h
      obtain ⟨_, rfl, rs1⟩ := re_rs_i rs
      obtain ⟨_, rfl, rs2⟩ := re_rs_l rs1
      exact lv_lshr hx hb hdg rfl (kk _ _ _ hl rl ⟨rfl, rs2⟩)
    next => cases h
  case lcmp  =>
    simp only [re_pure] at h
    have hdg : decode cc pc = .ok (.lcmp, 1) := hlen.elim (fun q => absurd q (by simp [re_len])) (fun q => by rw [hdg0, q]; rfl)
    split at h
    next y x r =>
      cases h
      obtain ⟨_, rfl, rs1⟩ := re_rs_l rs
      obtain ⟨_, rfl, rs2⟩ := re_rs_l rs1
      exact W.lcmp hx hb hdg (kk _ _ _ hl rl ⟨rfl, rs2⟩)
    next => cases h
  case i2l  =>
    simp only [re_pure] at h
    have hdg : decode cc pc = .ok (.i2l, 1) := hlen.elim (fun q => absurd q (by simp [re_len])) (fun q => by rw [hdg0, q]; rfl)
    split at h
    next x r =>
      cases h
      obtain ⟨_, rfl, rs1⟩ := re_rs_i rs
      exact lv_i2l hx hb hdg rfl (kk _ _ _ hl rl ⟨rfl, rs1⟩)
    next => cases h
  case l2i  =>
    simp only [re_pure] at h
    have hdg : decode cc pc = .ok (.l2i, 1) := hlen.elim (fun q => absurd q (by simp [re_len])) (fun q => by rw [hdg0, q]; rfl)
    split at h
    next x r =>
      cases h
      obtain ⟨_, rfl, rs1⟩ := re_rs_l rs
      exact lv_l2i hx hb hdg rfl (kk _ _ _ hl rl ⟨rfl, rs1⟩)
    next => cases h
  case dup  =>
    simp only [re_pure] at h
    have hdg : decode cc pc = .ok (.dup, 1) := hlen.elim (fun q => absurd q (by simp [re_len])) (fun q => by rw [hdg0, q]; rfl)
    split at h
    next x r =>
      cases h
      obtain ⟨_, rfl, rs1⟩ := re_rs_i rs
      exact lv_dup hx hb hdg rfl (kk _ _ _ hl rl ⟨rfl, rfl, rs1⟩)
    next x r =>
      cases h
      obtain ⟨a9, _, rfl, e2, rs1⟩ := re_rs_r rs
      exact lv_dup hx hb hdg rfl (kk _ _ _ hl rl ⟨⟨a9, e2, rfl⟩, ⟨a9, e2, rfl⟩, rs1⟩)
    next x r =>
      cases h
      obtain ⟨_, rfl, rs1⟩ := re_rs_f rs
      exact lv_dup hx hb hdg rfl (kk _ _ _ hl rl ⟨rfl, rfl, rs1⟩)
    next x r =>
      cases h
      obtain ⟨_, rfl, rs1⟩ := re_rs_x rs
      exact lv_dup hx hb hdg rfl (kk _ _ _ hl rl ⟨rfl, rfl, rs1⟩)
    next => cases h
  case dup_x1  =>
    simp only [re_pure] at h
    have hdg : decode cc pc = .ok (.dup_x1, 1) := hlen.elim (fun q => absurd q (by simp [re_len])) (fun q => by rw [hdg0, q]; rfl)
    split at h
    next x i r =>
      cases h
      obtain ⟨_, rfl, rs1⟩ := re_rs_i rs
      obtain ⟨a9, _, rfl, e2, rs2⟩ := re_rs_r rs1
      exact lv_dup_x1 hx hb hdg rfl rfl (kk _ _ _ hl rl ⟨rfl, ⟨a9, e2, rfl⟩, rfl, rs2⟩)
    next x i r =>
      cases h
      obtain ⟨a8, _, rfl, e1, rs1⟩ := re_rs_r rs
      obtain ⟨a9, _, rfl, e2, rs2⟩ := re_rs_r rs1
      exact lv_dup_x1 hx hb hdg rfl rfl (kk _ _ _ hl rl ⟨⟨a8, e1, rfl⟩, ⟨a9, e2, rfl⟩, ⟨a8, e1, rfl⟩, rs2⟩)
    next => cases h
  case dup2  =>
    simp only [re_pure] at h
    have hdg : decode cc pc = .ok (.dup2, 1) := hlen.elim (fun q => absurd q (by simp [re_len])) (fun q => by rw [hdg0, q]; rfl)
    split at h
    next x i r =>
      cases h
      obtain ⟨_, rfl, rs1⟩ := re_rs_i rs
      obtain ⟨a9, _, rfl, e2, rs2⟩ := re_rs_r rs1
      exact lv_dup2_11 hx hb hdg rfl rfl (kk _ _ _ hl rl ⟨rfl, ⟨a9, e2, rfl⟩, rfl, ⟨a9, e2, rfl⟩, rs2⟩)
    next => cases h
  case pop  =>
    simp only [re_pure] at h
    have hdg : decode cc pc = .ok (.pop, 1) := hlen.elim (fun q => absurd q (by simp [re_len])) (fun q => by rw [hdg0, q]; rfl)
    split at h
    next x r =>
      cases h
      obtain ⟨_, rfl, rs1⟩ := re_rs_i rs
      exact lv_pop hx hb hdg rfl (kk _ _ _ hl rl rs1)
    next x r =>
      cases h
      obtain ⟨a9, _, rfl, e2, rs1⟩ := re_rs_r rs
      exact lv_pop hx hb hdg rfl (kk _ _ _ hl rl rs1)
    next r =>
      cases h
      obtain ⟨_, rfl, rs1⟩ := re_rs_n rs
      exact lv_pop hx hb hdg rfl (kk _ _ _ hl rl rs1)
    next => cases h
  case if_icmp cd off =>
    simp only [re_pure] at h
    have hdg : decode cc pc = .ok (.if_icmp cd off, 3) := hlen.elim (fun q => absurd q (by simp [re_len])) (fun q => by rw [hdg0, q]; rfl)
    split at h
    next y x r t ht =>
      cases h
      obtain ⟨_, rfl, rs1⟩ := re_rs_i rs
      obtain ⟨_, rfl, rs2⟩ := re_rs_i rs1
      exact re_icmp_ok hx hb hdg (re_jmp_ok ht) (kk _ _ _ hl rl rs2)
    next y x r t ht =>
      split at h
      next b hb9 =>
        cases h
        obtain ⟨_, rfl, rs1⟩ := re_rs_i rs
        obtain ⟨_, rfl, rs2⟩ := re_rs_f rs1
        refine re_icmp_ok hx hb hdg (re_jmp_ok ht) ?_
        rw [hO _ _ _ _ _ _ hb9 rfl rfl]
        exact kk _ _ _ hl rl rs2
      next => cases h
    next y x r t ht =>
      split at h
      next b hb9 =>
        cases h
        obtain ⟨_, rfl, rs1⟩ := re_rs_f rs
        obtain ⟨_, rfl, rs2⟩ := re_rs_i rs1
        refine re_icmp_ok hx hb hdg (re_jmp_ok ht) ?_
        rw [hO _ _ _ _ _ _ hb9 rfl rfl]
        exact kk _ _ _ hl rl rs2
      next => cases h
    next y x r t ht =>
      split at h
      next b hb9 =>
        cases h
        obtain ⟨_, rfl, rs1⟩ := re_rs_f rs
        obtain ⟨_, rfl, rs2⟩ := re_rs_f rs1
        refine re_icmp_ok hx hb hdg (re_jmp_ok ht) ?_
        rw [hO _ _ _ _ _ _ hb9 rfl rfl]
        exact kk _ _ _ hl rl rs2
      next => cases h
    next => cases h
  case ifCond cd off =>
    simp only [re_pure] at h
    have hdg : decode cc pc = .ok (.ifCond cd off, 3) := hlen.elim (fun q => absurd q (by simp [re_len])) (fun q => by rw [hdg0, q]; rfl)
    split at h
    next x r t ht =>
      cases h
      obtain ⟨_, rfl, rs1⟩ := re_rs_i rs
      exact re_if_ok hx hb hdg (re_jmp_ok ht) (kk _ _ _ hl rl rs1)
    next x r t ht =>
      split at h
      next b hb9 =>
        cases h
        obtain ⟨_, rfl, rs1⟩ := re_rs_f rs
        refine re_if_ok hx hb hdg (re_jmp_ok ht) ?_
        rw [hO _ _ _ _ _ _ hb9 rfl rfl]
        exact kk _ _ _ hl rl rs1
      next => cases h
    next => cases h
  case goto off =>
    simp only [re_pure] at h
    have hdg : decode cc pc = .ok (.goto off, 3) := hlen.elim (fun q => absurd q (by simp [re_len])) (fun q => by rw [hdg0, q]; rfl)
    split at h
    next t ht =>
      cases h
      exact lv_goto hx hb hdg (re_jmp_ok ht) (kk _ _ _ hl rl rs)
    next => cases h
  case ifnull off =>
    simp only [re_pure] at h
    have hdg : decode cc pc = .ok (.ifnull off, 3) := hlen.elim (fun q => absurd q (by simp [re_len])) (fun q => by rw [hdg0, q]; rfl)
    split at h
    next x r t ht =>
      cases h
      obtain ⟨a9, _, rfl, e2, rs1⟩ := re_rs_r rs
      exact lv_ifnull hx hb hdg (kk _ _ _ hl rl rs1)
    next r t ht =>
      cases h
      obtain ⟨_, rfl, rs1⟩ := re_rs_n rs
      exact lv_ifnullN hx hb hdg (re_jmp_ok ht) (kk _ _ _ hl rl rs1)
    next x r t ht =>
      cases h
      obtain ⟨_, rfl, rs1⟩ := re_rs_x rs
      exact lv_ifnull hx hb hdg (kk _ _ _ hl rl rs1)
    next => cases h
  case ifnonnull off =>
    simp only [re_pure] at h
    have hdg : decode cc pc = .ok (.ifnonnull off, 3) := hlen.elim (fun q => absurd q (by simp [re_len])) (fun q => by rw [hdg0, q]; rfl)
    split at h
    next x r t ht =>
      cases h
      obtain ⟨a9, _, rfl, e2, rs1⟩ := re_rs_r rs
      exact lv_ifnonnull hx hb hdg (re_jmp_ok ht) (kk _ _ _ hl rl rs1)
    next r t ht =>
      cases h
      obtain ⟨_, rfl, rs1⟩ := re_rs_n rs
      exact lv_ifnonnullN hx hb hdg (kk _ _ _ hl rl rs1)
    next x r t ht =>
      cases h
      obtain ⟨_, rfl, rs1⟩ := re_rs_x rs
      exact lv_ifnonnull hx hb hdg (re_jmp_ok ht) (kk _ _ _ hl rl rs1)
    next => cases h
  case tableswitch dflt lo hi offs =>
    simp only [re_pure] at h
    split at h
    next x r =>
      obtain ⟨_, rfl, rs1⟩ := re_rs_i rs
      split at h
      next hq =>
        split at h
        next t ht =>
          cases h
          exact lv_tableOut hx hb hdg0 hq (re_jmp_ok ht) (kk _ _ _ hl rl rs1)
        next => cases h
      next hq =>
        split at h
        next off ho =>
          split at h
          next t ht =>
            cases h
            exact lv_tableIn hx hb hdg0 (fun z => hq (Or.inl z)) (fun z => hq (Or.inr z)) ho (re_jmp_ok ht) (kk _ _ _ hl rl rs1)
          next => cases h
        next => cases h
    next => cases h
  all_goals (exact absurd h (by simp [re_pure]))
end REP
