/-! Constructors of more cells. -/
/-- an object o that is being made: new cells in a row behind h0, nothing else is written -/
def cu (h0 h : re_H) (o t : Nat) (w : List Value) (l : List re_C) : Prop := h.1 = h0.1 + l.length ∧ re_hg h o = some (t, w) ∧ (∀ (i : Nat) (c : re_C), l[i]? = some c → re_hg h (h0.1 + i) = some c) ∧ (∀ a, a < h0.1 → ¬ a = o → re_hg h a = re_hg h0 a) ∧ o < h0.1 ∧ ∃ w0, re_hg h0 o = some (t, w0)
theorem cu_0 {h : re_H} {o t : Nat} {w : List Value} (e : re_hg h o = some (t, w)) : cu h h o t w [] := ⟨rfl, e, fun i c y => (by cases y), fun _ _ _ => rfl, hg_lt e, ⟨_, e⟩⟩
theorem cu_q {h0 h : re_H} {o t : Nat} {w : List Value} {l : List re_C} {c : re_C} (u : cu h0 h o t w l) : cu h0 (re_hq h c) o t w (l ++ [c]) := by
  obtain ⟨u1, u2, u3, u4, u5, u6⟩ := u
  refine ⟨?_, hq_k u2, fun i c' hi => ?_, fun a ha hn => (hq_o (by omega)).trans (u4 a ha hn), u5, u6⟩
  · rw [hq_1, u1, List.length_append, List.length_singleton]; omega
  · rcases Nat.lt_or_ge i l.length with g | g
    · rw [List.getElem?_append_left g] at hi
      exact hq_k (u3 i c' hi)
    · rw [List.getElem?_append_right g] at hi
      have hz : i - l.length = 0 := by
        rcases Nat.eq_zero_or_pos (i - l.length) with y | y
        · exact y
        · rw [List.getElem?_eq_none (by rw [List.length_singleton]; exact y)] at hi
          cases hi
      rw [hz] at hi
      cases hi
      rw [show h0.1 + i = h.1 by omega]
      exact hq_s
theorem cu_w {h0 h : re_H} {o t : Nat} {w : List Value} {l : List re_C} {k : Nat} {v : Value} (u : cu h0 h o t w l) : cu h0 (re_hw h o (t, w.set k v)) o t (w.set k v) l := by
  obtain ⟨u1, u2, u3, u4, u5, u6⟩ := u
  refine ⟨u1, hw_s (hg_lt u2), fun i c' hi => ?_, fun a ha hn => (hw_n hn).trans (u4 a ha hn), u5, u6⟩
  rw [hw_n (by omega)]
  exact u3 i c' hi
theorem cu_e {h0 h : re_H} {o t : Nat} {w : List Value} {l : List re_C} (u : cu h0 h o t w l) : re_hg h o = some (t, w) := u.2.1
theorem cu_mo {h0 h : re_H} {o t n : Nat} {w : List Value} {l : List re_C} (u : cu h0 h o t w l) (ht : ¬ t = 9) (hn : l.length ≤ n) : mo (fun a => a = o) n h0 h := by
  obtain ⟨u1, u2, u3, u4, u5, ⟨w0, u6⟩⟩ := u
  refine ⟨⟨by omega, u4⟩, fun a w' e => ?_, by omega⟩
  rw [u4 a (hg_lt e) (fun y => by subst y; rw [u6] at e; cases e; exact ht rfl)]
  exact e
section KU
variable {SC : List Value} {d q : Nat} {h : re_H} {Q : Nat → Value → re_H → Prop} {a0 a1 a2 : Nat}
theorem c192 (e : re_hg h a0 = some (3, [.null, .null, .null, .null, .null, .null, .null])) (hp : h.1 = a0 + 1) (K : ∀ h', lkr h' a0 a1 (fun _ _ => 0) → mo (fun a => a = a0) 6 h h' → h'.1 = h.1 + 6 → Q 0 .null h') : wp SC 192 d (q + 10) 0 [(0, .ref a0), (1, .ref a1)] [] h Q := by
  have u0 := cu_0 e
  refine B192_0 (B192_4 (i := 16) (s' := q + 7) rfl (by omega) (by omega) (by omega) (B192_9 (cu_e (cu_q u0)) (by show 1 < 7; omega) ?_))
  have u1 := cu_w (k := 1) (v := .ref h.1) (cu_q (c := (100, List.replicate 16 (.int 0))) u0)
  refine B192_12 (i := 16) (s' := q + 4) rfl (by omega) (by omega) (by omega) (B192_17 (cu_e (cu_q u1)) (by show 2 < 7; omega) ?_)
  have u2 := cu_w (k := 2) (v := .ref (h.1 + 1)) (cu_q (c := (100, List.replicate 16 (.int 0))) u1)
  refine B192_20 (i := 12) (s' := q + 3) rfl (by omega) (by omega) (by omega) (B192_25 (cu_e (cu_q u2)) (by show 3 < 7; omega) ?_)
  have u3 := cu_w (k := 3) (v := .ref (h.1 + 2)) (cu_q (c := (100, List.replicate 12 (.int 0))) u2)
  refine B192_28 (i := 12) (s' := q + 2) rfl (by omega) (by omega) (by omega) (B192_33 (cu_e (cu_q u3)) (by show 4 < 7; omega) ?_)
  have u4 := cu_w (k := 4) (v := .ref (h.1 + 3)) (cu_q (c := (100, List.replicate 12 (.int 0))) u3)
  refine B192_36 (i := 12) (s' := q + 1) rfl (by omega) (by omega) (by omega) (B192_41 (cu_e (cu_q u4)) (by show 5 < 7; omega) ?_)
  have u5 := cu_w (k := 5) (v := .ref (h.1 + 4)) (cu_q (c := (100, List.replicate 12 (.int 0))) u4)
  refine B192_44 (i := 12) (s' := q) rfl (by omega) (by omega) (by omega) (B192_49 (cu_e (cu_q u5)) (by show 6 < 7; omega) ?_)
  have u6 := cu_w (k := 6) (v := .ref (h.1 + 5)) (cu_q (c := (100, List.replicate 12 (.int 0))) u5)
  refine B192_52 (cu_e u6) (by show 0 < 7; omega) ?_
  have u7 := cu_w (k := 0) (v := .ref a1) u6
  refine B192_57 (K _ ⟨?_, fun j h1 h6 => ?_⟩ (cu_mo u7 (by omega) (Nat.le_refl 6)) u7.1)
  · rw [cu_e u7, hp]; rfl
  · have e2 := u7.2.2.1
    rw [hp] at e2
    rw [← rep_lst]
    rcases (show j = 1 ∨ j = 2 ∨ j = 3 ∨ j = 4 ∨ j = 5 ∨ j = 6 by omega) with rfl | rfl | rfl | rfl | rfl | rfl
    · exact e2 0 _ rfl
    · exact e2 1 _ rfl
    · exact e2 2 _ rfl
    · exact e2 3 _ rfl
    · exact e2 4 _ rfl
    · exact e2 5 _ rfl
theorem c448 (e : re_hg h a0 = some (7, [.null, .null, .null, .null, .null, .int 0, .null, .null, .int 0, .int 0, .int 0, .int 0, .null, .long 0])) (hp : h.1 = a0 + 1) (K : ∀ h', mcz h' a0 a1 a2 0 → mo (fun a => a = a0) 5 h h' → h'.1 = h.1 + 5 → Q 0 .null h') : wp SC 448 d (q + 1181) 0 [(0, .ref a0), (1, .ref a1), (2, .ref a2)] [] h Q := by
  have u0 := cu_0 e
  refine B448_0 (B448_4 (i := 604) (s' := q + 884) rfl (by omega) (by omega) (by omega) (B448_11 (cu_e (cu_q u0)) (by show 2 < 14; omega) ?_))
  have u1 := cu_w (k := 2) (v := .ref h.1) (cu_q (c := (103, List.replicate 604 .null)) u0)
  refine B448_14 (i := 604) (s' := q + 587) rfl (by omega) (by omega) (by omega) (B448_21 (cu_e (cu_q u1)) (by show 3 < 14; omega) ?_)
  have u2 := cu_w (k := 3) (v := .ref (h.1 + 1)) (cu_q (c := (106, List.replicate 604 .null)) u1)
  refine B448_24 (i := 604) (s' := q + 290) rfl (by omega) (by omega) (by omega) (B448_30 (cu_e (cu_q u2)) (by show 4 < 14; omega) ?_)
  have u3 := cu_w (k := 4) (v := .ref (h.1 + 2)) (cu_q (c := (102, List.replicate 604 (.int 0))) u2)
  refine B448_33 (i := 301) (s' := q + 145) rfl (by omega) (by omega) (by omega) (B448_39 (cu_e (cu_q u3)) (by show 6 < 14; omega) ?_)
  have u4 := cu_w (k := 6) (v := .ref (h.1 + 3)) (cu_q (c := (101, List.replicate 301 (.long 0))) u3)
  refine B448_42 (i := 301) (s' := q) rfl (by omega) (by omega) (by omega) (B448_49 (cu_e (cu_q u4)) (by show 7 < 14; omega) ?_)
  have u5 := cu_w (k := 7) (v := .ref (h.1 + 4)) (cu_q (c := (106, List.replicate 301 .null)) u4)
  refine B448_52 (cu_e u5) (by show 0 < 14; omega) ?_
  have u6 := cu_w (k := 0) (v := .ref a1) u5
  refine B448_57 (cu_e u6) (by show 1 < 14; omega) ?_
  have u7 := cu_w (k := 1) (v := .ref a2) u6
  have e2 := u7.2.2.1
  rw [hp] at e2
  refine B448_62 (K _ ⟨0, 0, 0, 0, 0, .null, List.replicate 604 .null, List.replicate 604 .null, List.replicate 604 (.int 0), List.replicate 301 (.long 0), List.replicate 301 .null, ⟨rfl, ?_, e2 0 _ rfl, e2 1 _ rfl, e2 2 _ rfl, e2 3 _ rfl, e2 4 _ rfl, fun _ _ => rfl⟩, ?_⟩ (cu_mo u7 (by omega) (Nat.le_refl 5)) u7.1)
  · rw [cu_e u7, hp]; rfl
  · simp only [List.length_replicate, and_self]
/-- a result, as it is made -/
theorem rs_made {h hh h2 h3 : re_H} (hp : h.1 = a0 + 1) (u4 : cu h hh a0 5 [.int (-1), .int 0, .int 0, .ref h.1, .ref (h.1 + 1), .ref (h.1 + 2), .null, .null, .int 0, .null, .null] [(100, List.replicate 4 (.int 0)), (101, List.replicate 4 (.long 0)), (106, List.replicate 4 .null), (2, [.int 0, .null, .null])]) (zc : cd h2 (h.1 + 3) []) (m2 : mo (fun a => a = h.1 + 3) 2 hh h2) (l2 : h2.1 = hh.1 + 2) (v4 : cu h2 h3 a0 5 [.int (-1), .int 0, .int 0, .ref h.1, .ref (h.1 + 1), .ref (h.1 + 2), .ref (h.1 + 3), .ref h2.1, .int 0, .ref (h2.1 + 1), .ref (h2.1 + 2)] [(101, List.replicate 4 (.long 0)), (100, List.replicate 16 (.int 0)), (101, List.replicate 16 (.long 0))]) : (∀ E, rs h3 E a0 R00) ∧ mo (fun a => a = a0) 9 h h3 ∧ h3.1 = h.1 + 9 := by
  have es := u4.2.2.1
  have el : hh.1 = h.1 + 4 := u4.1
  have m4 := cu_mo u4 (by omega) (Nat.le_refl 4)
  have l3 : h3.1 = h2.1 + 3 := v4.1
  have n4 := cu_mo v4 (by omega) (Nat.le_refl 3)
  have g2 : ∀ a c, a < h.1 + 3 → ¬ a = a0 → re_hg hh a = some c → re_hg h3 a = some c := fun a c ha hn hc => mo_g n4 hn (mo_g m2 (by show ¬ a = _; omega) hc)
  have g5 := v4.2.2.1
  refine ⟨fun E => ⟨List.replicate 4 (.int 0), List.replicate 4 (.long 0), List.replicate 4 .null, fun _ => 0, ?_, ?_, ?_, ?_, ⟨Nat.zero_le _, rfl, rfl, rfl, fun i n v y => (by cases y), fun i _ hi => ?_⟩, ?_, ?_, ?_, ?_, fun i v y => (by cases y), fun i v y => (by cases y)⟩, ⟨⟨by omega, fun a ha hn => ?_⟩, ?_, by omega⟩, by omega⟩
  · rw [cu_e v4, l2, el, hp]; rfl
  · rw [← hp]; exact g2 h.1 _ (by omega) (by omega) (es 0 _ rfl)
  · rw [show a0 + 2 = h.1 + 1 by omega]; exact g2 _ _ (by omega) (by omega) (es 1 _ rfl)
  · rw [show a0 + 3 = h.1 + 2 by omega]; exact g2 _ _ (by omega) (by omega) (es 2 _ rfl)
  · rw [List.getElem?_replicate, if_pos hi]
  · rw [show a0 + 4 = h.1 + 3 by omega]
    exact cd_fr (fun a h1 h2 => n4.1.2 a (by omega) (by show ¬ a = a0; omega)) n4.2.1 zc
  · rw [show a0 + 7 = h2.1 + 0 by omega, ← rep_lst]; exact g5 0 _ rfl
  · rw [show a0 + 8 = h2.1 + 1 by omega]
    exact (g5 1 _ rfl).trans (congrArg (fun z => some (100, z)) (rep_lst 16 _))
  · rw [show a0 + 9 = h2.1 + 2 by omega]
    exact (g5 2 _ rfl).trans (congrArg (fun z => some (101, z)) (rep_lst 16 _))
  · rw [n4.1.2 a (by omega) hn, m2.1.2 a (by omega) (by show ¬ a = _; omega)]
    exact m4.1.2 a ha hn
  · exact xk_tr m4.2.1 (xk_tr m2.2.1 n4.2.1)
theorem c320b {hh : re_H} (hp : h.1 = a0 + 1) (u4 : cu h hh a0 5 [.int (-1), .int 0, .int 0, .ref h.1, .ref (h.1 + 1), .ref (h.1 + 2), .null, .null, .int 0, .null, .null] [(100, List.replicate 4 (.int 0)), (101, List.replicate 4 (.long 0)), (106, List.replicate 4 .null), (2, [.int 0, .null, .null])]) (K : ∀ h', (∀ E, rs h' E a0 R00) → mo (fun a => a = a0) 9 h h' → h'.1 = h.1 + 9 → Q 0 .null h') : wp SC 320 (d + 1) (q + 6) 35 [(0, .ref a0)] [.ref (h.1 + 3), .ref a0] hh Q := by
  have e4 := u4.2.2.1 3 _ rfl
  have el : hh.1 = h.1 + 4 := u4.1
  refine B320_35 e4 rfl (c128 e4 rfl rfl el (fun h2 zc m2 l2 => ret0 ?_))
  have v0 := cu_0 (mo_g m2 (a := a0) (by show ¬ a0 = _; omega) (cu_e u4))
  refine B320_39 (cu_e v0) (by show 6 < 11; omega) ?_
  have v1 := cu_w (k := 6) (v := .ref (h.1 + 3)) v0
  refine B320_42 (i := 4) (s' := q + 6) rfl (by omega) (by omega) (by omega) (B320_46 (cu_e (cu_q v1)) (by show 7 < 11; omega) ?_)
  have v2 := cu_w (k := 7) (v := .ref h2.1) (cu_q (c := (101, List.replicate 4 (.long 0))) v1)
  refine B320_49 (i := 16) (s' := q + 3) rfl (by omega) (by omega) (by omega) (B320_54 (cu_e (cu_q v2)) (by show 9 < 11; omega) ?_)
  have v3 := cu_w (k := 9) (v := .ref (h2.1 + 1)) (cu_q (c := (100, List.replicate 16 (.int 0))) v2)
  refine B320_57 (i := 16) (s' := q) rfl (by omega) (by omega) (by omega) (B320_62 (cu_e (cu_q v3)) (by show 10 < 11; omega) ?_)
  have v4 := cu_w (k := 10) (v := .ref (h2.1 + 2)) (cu_q (c := (101, List.replicate 16 (.long 0))) v3)
  obtain ⟨k1, k2, k3⟩ := rs_made hp u4 zc m2 l2 v4
  exact B320_65 (K _ k1 k2 k3)
theorem c320 (e : re_hg h a0 = some (5, [.int 0, .int 0, .int 0, .null, .null, .null, .null, .null, .int 0, .null, .null])) (hp : h.1 = a0 + 1) (K : ∀ h', (∀ E, rs h' E a0 R00) → mo (fun a => a = a0) 9 h h' → h'.1 = h.1 + 9 → Q 0 .null h') : wp SC 320 (d + 1) (q + 6) 0 [(0, .ref a0)] [] h Q := by
  have u0 := cu_w (k := 0) (v := .int (-1)) (cu_0 e)
  refine B320_0 (B320_4 e (by show 0 < 11; omega) ?_)
  refine B320_9 (i := 4) (s' := q + 6) rfl (by omega) (by omega) (by omega) (B320_13 (cu_e (cu_q u0)) (by show 3 < 11; omega) ?_)
  have u1 := cu_w (k := 3) (v := .ref h.1) (cu_q (c := (100, List.replicate 4 (.int 0))) u0)
  refine B320_16 (i := 4) (s' := q + 6) rfl (by omega) (by omega) (by omega) (B320_20 (cu_e (cu_q u1)) (by show 4 < 11; omega) ?_)
  have u2 := cu_w (k := 4) (v := .ref (h.1 + 1)) (cu_q (c := (101, List.replicate 4 (.long 0))) u1)
  refine B320_23 (i := 4) (s' := q + 6) rfl (by omega) (by omega) (by omega) (B320_28 (cu_e (cu_q u2)) (by show 5 < 11; omega) ?_)
  have u3 := cu_w (k := 5) (v := .ref (h.1 + 2)) (cu_q (c := (106, List.replicate 4 .null)) u2)
  have u4 := cu_q (c := (2, [.int 0, .null, .null])) u3
  exact B320_31 (c320b hp u4 K)
end KU
