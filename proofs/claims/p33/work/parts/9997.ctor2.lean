/-! Constructors of more cells. -/
/-- an object o that is being made: new cells in a row behind h0, nothing else is written -/
def cu (h0 h : re_H) (o t : Nat) (w : List Value) (l : List re_C) : Prop := h.1 = h0.1 + l.length ∧ re_hg h o = some (t, w) ∧ (∀ (i : Nat) (c : re_C), l[i]? = some c → re_hg h (h0.1 + i) = some c) ∧ (∀ a, a < h0.1 → ¬ a = o → re_hg h a = re_hg h0 a) ∧ o < h0.1 ∧ ∃ w0, re_hg h0 o = some (t, w0)
theorem cu_0 {h : re_H} {o t : Nat} {w : List Value} (e : re_hg h o = some (t, w)) : cu h h o t w [] := ⟨rfl, e, fun i c y => (by cases y), fun _ _ _ => rfl, hg_lt e, ⟨_, e⟩⟩
theorem cu_q {h0 h : re_H} {o t : Nat} {w : List Value} {l : List re_C} {c : re_C} (u : cu h0 h o t w l) : cu h0 (re_hq h c) o t w (l ++ [c]) := by
  obtain ⟨u1, u2, u3, u4, u5, u6⟩ := u
  refine ⟨?_, hq_k u2, fun i c' hi => ?_, fun a ha hn => (hq_o (by omega)).trans (u4 a ha hn), u5, u6⟩
  · rw [hq_1, u1, List.length_append, List.length_singleton]; omega
  · rcases Nat.lt_or_ge i l.length with g | g
    · rw [List.getElem?_append_left g] at hi
      exact hq_k (u3 i c' hi)
    · rw [List.getElem?_append_right g] at hi
      have hz : i - l.length = 0 := by
        rcases Nat.eq_zero_or_pos (i - l.length) with y | y
        · exact y
        · rw [List.getElem?_eq_none (by rw [List.length_singleton]; exact y)] at hi
          cases hi
      rw [hz] at hi
      cases hi
      rw [show h0.1 + i = h.1 by omega]
      exact hq_s
theorem cu_w {h0 h : re_H} {o t : Nat} {w : List Value} {l : List re_C} {k : Nat} {v : Value} (u : cu h0 h o t w l) : cu h0 (re_hw h o (t, w.set k v)) o t (w.set k v) l := by
  obtain ⟨u1, u2, u3, u4, u5, u6⟩ := u
  refine ⟨u1, hw_s (hg_lt u2), fun i c' hi => ?_, fun a ha hn => (hw_n hn).trans (u4 a ha hn), u5, u6⟩
  rw [hw_n (by omega)]
  exact u3 i c' hi
theorem cu_e {h0 h : re_H} {o t : Nat} {w : List Value} {l : List re_C} (u : cu h0 h o t w l) : re_hg h o = some (t, w) := u.2.1
theorem cu_mo {h0 h : re_H} {o t n : Nat} {w : List Value} {l : List re_C} (u : cu h0 h o t w l) (ht : ¬ t = 9) (hn : l.length ≤ n) : mo (fun a => a = o) n h0 h := by
  obtain ⟨u1, u2, u3, u4, u5, ⟨w0, u6⟩⟩ := u
  refine ⟨⟨by omega, u4⟩, fun a w' e => ?_, by omega⟩
  rw [u4 a (hg_lt e) (fun y => by subst y; rw [u6] at e; cases e; exact ht rfl)]
  exact e
section KU
variable {SC : List Value} {d q : Nat} {h : re_H} {Q : Nat → Value → re_H → Prop} {a0 a1 a2 : Nat}
theorem c192 (e : re_hg h a0 = some (3, [.null, .null, .null, .null, .null, .null, .null])) (p0 : h.1 = a0 + 1) (K : ∀ h', lkr h' a0 a1 (fun _ _ => 0) → mo (fun a => a = a0) 6 h h' → h'.1 = h.1 + 6 → Q 0 .null h') : wp SC 192 d (q + 10) 0 [(0, .ref a0), (1, .ref a1)] [] h Q := by
  have u0 := cu_0 e
  refine B192_0 ?_
  refine B192_4 (i := 16) (s' := q + 7) rfl (by omega) (by omega) (by omega) ?_
  rw [p0]
  refine B192_9 (cu_e (cu_q u0)) (by show 1 < 7; omega) ?_
  generalize E : re_hw _ _ _ = h1
  have u1 : cu h h1 a0 3 [.null, .ref (a0 + 1), .null, .null, .null, .null, .null] [(100, List.replicate 16 (.int 0))] := by rw [← E]; exact cu_w (cu_q u0)
  clear E
  have p1 : h1.1 = a0 + 2 := by have e9 : h1.1 = h.1 + 1 := u1.1; omega
  refine B192_12 (i := 16) (s' := q + 4) rfl (by omega) (by omega) (by omega) ?_
  rw [p1]
  refine B192_17 (cu_e (cu_q u1)) (by show 2 < 7; omega) ?_
  generalize E : re_hw _ _ _ = h2
  have u2 : cu h h2 a0 3 [.null, .ref (a0 + 1), .ref (a0 + 2), .null, .null, .null, .null] [(100, List.replicate 16 (.int 0)), (100, List.replicate 16 (.int 0))] := by rw [← E]; exact cu_w (cu_q u1)
  clear E
  have p2 : h2.1 = a0 + 3 := by have e9 : h2.1 = h.1 + 2 := u2.1; omega
  refine B192_20 (i := 12) (s' := q + 3) rfl (by omega) (by omega) (by omega) ?_
  rw [p2]
  refine B192_25 (cu_e (cu_q u2)) (by show 3 < 7; omega) ?_
  generalize E : re_hw _ _ _ = h3
  have u3 : cu h h3 a0 3 [.null, .ref (a0 + 1), .ref (a0 + 2), .ref (a0 + 3), .null, .null, .null] [(100, List.replicate 16 (.int 0)), (100, List.replicate 16 (.int 0)), (100, List.replicate 12 (.int 0))] := by rw [← E]; exact cu_w (cu_q u2)
  clear E
  have p3 : h3.1 = a0 + 4 := by have e9 : h3.1 = h.1 + 3 := u3.1; omega
  refine B192_28 (i := 12) (s' := q + 2) rfl (by omega) (by omega) (by omega) ?_
  rw [p3]
  refine B192_33 (cu_e (cu_q u3)) (by show 4 < 7; omega) ?_
  generalize E : re_hw _ _ _ = h4
  have u4 : cu h h4 a0 3 [.null, .ref (a0 + 1), .ref (a0 + 2), .ref (a0 + 3), .ref (a0 + 4), .null, .null] [(100, List.replicate 16 (.int 0)), (100, List.replicate 16 (.int 0)), (100, List.replicate 12 (.int 0)), (100, List.replicate 12 (.int 0))] := by rw [← E]; exact cu_w (cu_q u3)
  clear E
  have p4 : h4.1 = a0 + 5 := by have e9 : h4.1 = h.1 + 4 := u4.1; omega
  refine B192_36 (i := 12) (s' := q + 1) rfl (by omega) (by omega) (by omega) ?_
  rw [p4]
  refine B192_41 (cu_e (cu_q u4)) (by show 5 < 7; omega) ?_
  generalize E : re_hw _ _ _ = h5
  have u5 : cu h h5 a0 3 [.null, .ref (a0 + 1), .ref (a0 + 2), .ref (a0 + 3), .ref (a0 + 4), .ref (a0 + 5), .null] [(100, List.replicate 16 (.int 0)), (100, List.replicate 16 (.int 0)), (100, List.replicate 12 (.int 0)), (100, List.replicate 12 (.int 0)), (100, List.replicate 12 (.int 0))] := by rw [← E]; exact cu_w (cu_q u4)
  clear E
  have p5 : h5.1 = a0 + 6 := by have e9 : h5.1 = h.1 + 5 := u5.1; omega
  refine B192_44 (i := 12) (s' := q) rfl (by omega) (by omega) (by omega) ?_
  rw [p5]
  refine B192_49 (cu_e (cu_q u5)) (by show 6 < 7; omega) ?_
  generalize E : re_hw _ _ _ = h6
  have u6 : cu h h6 a0 3 [.null, .ref (a0 + 1), .ref (a0 + 2), .ref (a0 + 3), .ref (a0 + 4), .ref (a0 + 5), .ref (a0 + 6)] [(100, List.replicate 16 (.int 0)), (100, List.replicate 16 (.int 0)), (100, List.replicate 12 (.int 0)), (100, List.replicate 12 (.int 0)), (100, List.replicate 12 (.int 0)), (100, List.replicate 12 (.int 0))] := by rw [← E]; exact cu_w (cu_q u5)
  clear E
  have p6 : h6.1 = a0 + 7 := by have e9 : h6.1 = h.1 + 6 := u6.1; omega
  refine B192_52 (cu_e u6) (by show 0 < 7; omega) ?_
  generalize E : re_hw _ _ _ = h7
  have u7 : cu h h7 a0 3 [.ref a1, .ref (a0 + 1), .ref (a0 + 2), .ref (a0 + 3), .ref (a0 + 4), .ref (a0 + 5), .ref (a0 + 6)] [(100, List.replicate 16 (.int 0)), (100, List.replicate 16 (.int 0)), (100, List.replicate 12 (.int 0)), (100, List.replicate 12 (.int 0)), (100, List.replicate 12 (.int 0)), (100, List.replicate 12 (.int 0))] := by rw [← E]; exact cu_w u6
  clear E
  have p7 : h7.1 = a0 + 7 := by have e9 : h7.1 = h.1 + 6 := u7.1; omega
  have e2 := u7.2.2.1
  rw [p0] at e2
  refine B192_57 (K h7 ⟨cu_e u7, fun j h1 h6 => ?_⟩ (cu_mo u7 (by omega) (Nat.le_refl 6)) u7.1)
  show re_hg h7 (a0 + j) = some (100, lst (lsz j) (fun _ => .int 0))
  rw [← rep_lst]
  rcases (show j = 1 ∨ j = 2 ∨ j = 3 ∨ j = 4 ∨ j = 5 ∨ j = 6 by omega) with rfl | rfl | rfl | rfl | rfl | rfl
  · exact e2 0 _ rfl
  · exact e2 1 _ rfl
  · exact e2 2 _ rfl
  · exact e2 3 _ rfl
  · exact e2 4 _ rfl
  · exact e2 5 _ rfl
theorem c448 (e : re_hg h a0 = some (7, [.null, .null, .null, .null, .null, .int 0, .null, .null, .int 0, .int 0, .int 0, .int 0, .null, .long 0])) (p0 : h.1 = a0 + 1) (K : ∀ h', mcz h' a0 a1 a2 0 → mo (fun a => a = a0) 5 h h' → h'.1 = h.1 + 5 → Q 0 .null h') : wp SC 448 d (q + 1181) 0 [(0, .ref a0), (1, .ref a1), (2, .ref a2)] [] h Q := by
  have u0 := cu_0 e
  refine B448_0 ?_
  refine B448_4 (i := 604) (s' := q + 884) rfl (by omega) (by omega) (by omega) ?_
  rw [p0]
  refine B448_11 (cu_e (cu_q u0)) (by show 2 < 14; omega) ?_
  generalize E : re_hw _ _ _ = h1
  have u1 : cu h h1 a0 7 [.null, .null, .ref (a0 + 1), .null, .null, .int 0, .null, .null, .int 0, .int 0, .int 0, .int 0, .null, .long 0] [(103, List.replicate 604 .null)] := by rw [← E]; exact cu_w (cu_q u0)
  clear E
  have p1 : h1.1 = a0 + 2 := by have e9 : h1.1 = h.1 + 1 := u1.1; omega
  refine B448_14 (i := 604) (s' := q + 587) rfl (by omega) (by omega) (by omega) ?_
  rw [p1]
  refine B448_21 (cu_e (cu_q u1)) (by show 3 < 14; omega) ?_
  generalize E : re_hw _ _ _ = h2
  have u2 : cu h h2 a0 7 [.null, .null, .ref (a0 + 1), .ref (a0 + 2), .null, .int 0, .null, .null, .int 0, .int 0, .int 0, .int 0, .null, .long 0] [(103, List.replicate 604 .null), (106, List.replicate 604 .null)] := by rw [← E]; exact cu_w (cu_q u1)
  clear E
  have p2 : h2.1 = a0 + 3 := by have e9 : h2.1 = h.1 + 2 := u2.1; omega
  refine B448_24 (i := 604) (s' := q + 290) rfl (by omega) (by omega) (by omega) ?_
  rw [p2]
  refine B448_30 (cu_e (cu_q u2)) (by show 4 < 14; omega) ?_
  generalize E : re_hw _ _ _ = h3
  have u3 : cu h h3 a0 7 [.null, .null, .ref (a0 + 1), .ref (a0 + 2), .ref (a0 + 3), .int 0, .null, .null, .int 0, .int 0, .int 0, .int 0, .null, .long 0] [(103, List.replicate 604 .null), (106, List.replicate 604 .null), (102, List.replicate 604 (.int 0))] := by rw [← E]; exact cu_w (cu_q u2)
  clear E
  have p3 : h3.1 = a0 + 4 := by have e9 : h3.1 = h.1 + 3 := u3.1; omega
  refine B448_33 (i := 301) (s' := q + 145) rfl (by omega) (by omega) (by omega) ?_
  rw [p3]
  refine B448_39 (cu_e (cu_q u3)) (by show 6 < 14; omega) ?_
  generalize E : re_hw _ _ _ = h4
  have u4 : cu h h4 a0 7 [.null, .null, .ref (a0 + 1), .ref (a0 + 2), .ref (a0 + 3), .int 0, .ref (a0 + 4), .null, .int 0, .int 0, .int 0, .int 0, .null, .long 0] [(103, List.replicate 604 .null), (106, List.replicate 604 .null), (102, List.replicate 604 (.int 0)), (101, List.replicate 301 (.long 0))] := by rw [← E]; exact cu_w (cu_q u3)
  clear E
  have p4 : h4.1 = a0 + 5 := by have e9 : h4.1 = h.1 + 4 := u4.1; omega
  refine B448_42 (i := 301) (s' := q) rfl (by omega) (by omega) (by omega) ?_
  rw [p4]
  refine B448_49 (cu_e (cu_q u4)) (by show 7 < 14; omega) ?_
  generalize E : re_hw _ _ _ = h5
  have u5 : cu h h5 a0 7 [.null, .null, .ref (a0 + 1), .ref (a0 + 2), .ref (a0 + 3), .int 0, .ref (a0 + 4), .ref (a0 + 5), .int 0, .int 0, .int 0, .int 0, .null, .long 0] [(103, List.replicate 604 .null), (106, List.replicate 604 .null), (102, List.replicate 604 (.int 0)), (101, List.replicate 301 (.long 0)), (106, List.replicate 301 .null)] := by rw [← E]; exact cu_w (cu_q u4)
  clear E
  have p5 : h5.1 = a0 + 6 := by have e9 : h5.1 = h.1 + 5 := u5.1; omega
  refine B448_52 (cu_e u5) (by show 0 < 14; omega) ?_
  generalize E : re_hw _ _ _ = h6
  have u6 : cu h h6 a0 7 [.ref a1, .null, .ref (a0 + 1), .ref (a0 + 2), .ref (a0 + 3), .int 0, .ref (a0 + 4), .ref (a0 + 5), .int 0, .int 0, .int 0, .int 0, .null, .long 0] [(103, List.replicate 604 .null), (106, List.replicate 604 .null), (102, List.replicate 604 (.int 0)), (101, List.replicate 301 (.long 0)), (106, List.replicate 301 .null)] := by rw [← E]; exact cu_w u5
  clear E
  have p6 : h6.1 = a0 + 6 := by have e9 : h6.1 = h.1 + 5 := u6.1; omega
  refine B448_57 (cu_e u6) (by show 1 < 14; omega) ?_
  generalize E : re_hw _ _ _ = h7
  have u7 : cu h h7 a0 7 [.ref a1, .ref a2, .ref (a0 + 1), .ref (a0 + 2), .ref (a0 + 3), .int 0, .ref (a0 + 4), .ref (a0 + 5), .int 0, .int 0, .int 0, .int 0, .null, .long 0] [(103, List.replicate 604 .null), (106, List.replicate 604 .null), (102, List.replicate 604 (.int 0)), (101, List.replicate 301 (.long 0)), (106, List.replicate 301 .null)] := by rw [← E]; exact cu_w u6
  clear E
  have p7 : h7.1 = a0 + 6 := by have e9 : h7.1 = h.1 + 5 := u7.1; omega
  have e2 := u7.2.2.1
  rw [p0] at e2
  refine B448_62 (K h7 ⟨0, 0, 0, 0, 0, .null, List.replicate 604 .null, List.replicate 604 .null, List.replicate 604 (.int 0), List.replicate 301 (.long 0), List.replicate 301 .null, ⟨rfl, cu_e u7, e2 0 _ rfl, e2 1 _ rfl, e2 2 _ rfl, e2 3 _ rfl, e2 4 _ rfl, fun _ _ => rfl⟩, ?_⟩ (cu_mo u7 (by omega) (Nat.le_refl 5)) u7.1)
  simp only [List.length_replicate, and_self]
/-- a result, as it is made -/
theorem rs_made {h hh h2 h3 : re_H} (hp : h.1 = a0 + 1) (u4 : cu h hh a0 5 [.int (-1), .int 0, .int 0, .ref (a0 + 1), .ref (a0 + 2), .ref (a0 + 3), .null, .null, .int 0, .null, .null] [(100, List.replicate 4 (.int 0)), (101, List.replicate 4 (.long 0)), (106, List.replicate 4 .null), (2, [.int 0, .null, .null])]) (zc : cd h2 (a0 + 4) []) (m2 : mo (fun a => a = a0 + 4) 2 hh h2) (l2 : h2.1 = a0 + 7) (v4 : cu h2 h3 a0 5 [.int (-1), .int 0, .int 0, .ref (a0 + 1), .ref (a0 + 2), .ref (a0 + 3), .ref (a0 + 4), .ref (a0 + 7), .int 0, .ref (a0 + 8), .ref (a0 + 9)] [(101, List.replicate 4 (.long 0)), (100, List.replicate 16 (.int 0)), (101, List.replicate 16 (.long 0))]) : (∀ E, rs h3 E a0 R00) ∧ mo (fun a => a = a0) 9 h h3 ∧ h3.1 = h.1 + 9 := by
  have es := u4.2.2.1
  rw [hp] at es
  have el : hh.1 = h.1 + 4 := u4.1
  have m4 := cu_mo u4 (by omega) (Nat.le_refl 4)
  have l3 : h3.1 = h2.1 + 3 := v4.1
  have n4 := cu_mo v4 (by omega) (Nat.le_refl 3)
  have g2 : ∀ a c, a < a0 + 4 → ¬ a = a0 → re_hg hh a = some c → re_hg h3 a = some c := fun a c ha hn hc => mo_g n4 hn (mo_g m2 (by show ¬ a = _; omega) hc)
  have g5 := v4.2.2.1
  rw [l2] at g5
  have x1 : re_hg h3 (a0 + 1) = some (100, List.replicate 4 (.int 0)) := g2 _ _ (by omega) (by omega) (es 0 _ rfl)
  have x2 : re_hg h3 (a0 + 2) = some (101, List.replicate 4 (.long 0)) := g2 _ _ (by omega) (by omega) (es 1 _ rfl)
  have x3 : re_hg h3 (a0 + 3) = some (106, List.replicate 4 .null) := g2 _ _ (by omega) (by omega) (es 2 _ rfl)
  have x7 : re_hg h3 (a0 + 7) = some (101, List.replicate 4 (.long 0)) := g5 0 _ rfl
  have x8 : re_hg h3 (a0 + 8) = some (100, List.replicate 16 (.int 0)) := g5 1 _ rfl
  have x9 : re_hg h3 (a0 + 9) = some (101, List.replicate 16 (.long 0)) := g5 2 _ rfl
  have x4 : cd h3 (a0 + 4) [] := cd_fr (fun a h1 h2 => n4.1.2 a (by omega) (by show ¬ a = a0; omega)) n4.2.1 zc
  rw [rep_lst] at x7 x8 x9
  refine ⟨fun E => ⟨List.replicate 4 (.int 0), List.replicate 4 (.long 0), List.replicate 4 .null, fun _ => 0, cu_e v4, x1, x2, x3, ⟨Nat.zero_le _, rfl, rfl, rfl, fun i n v y => (by cases y), fun i _ hi => ?_⟩, x4, x7, x8, x9, fun i v y => (by cases y), fun i v y => (by cases y)⟩, ⟨⟨by omega, fun a ha hn => ?_⟩, ?_, by omega⟩, by omega⟩
  · rw [List.getElem?_replicate, if_pos hi]
  · rw [n4.1.2 a (by omega) hn, m2.1.2 a (by omega) (by show ¬ a = _; omega)]
    exact m4.1.2 a ha hn
  · exact xk_tr m4.2.1 (xk_tr m2.2.1 n4.2.1)
theorem c320b {hh : re_H} (hp : h.1 = a0 + 1) (u4 : cu h hh a0 5 [.int (-1), .int 0, .int 0, .ref (a0 + 1), .ref (a0 + 2), .ref (a0 + 3), .null, .null, .int 0, .null, .null] [(100, List.replicate 4 (.int 0)), (101, List.replicate 4 (.long 0)), (106, List.replicate 4 .null), (2, [.int 0, .null, .null])]) (K : ∀ h', (∀ E, rs h' E a0 R00) → mo (fun a => a = a0) 9 h h' → h'.1 = h.1 + 9 → Q 0 .null h') : wp SC 320 (d + 1) (q + 6) 35 [(0, .ref a0)] [.ref (a0 + 4), .ref a0] hh Q := by
  have es := u4.2.2.1
  rw [hp] at es
  have e4 : re_hg hh (a0 + 4) = some (2, [.int 0, .null, .null]) := es 3 _ rfl
  have el : hh.1 = a0 + 5 := by
    have e9 : hh.1 = h.1 + 4 := u4.1
    omega
  refine B320_35 e4 rfl (c128 e4 rfl rfl el (fun h2 zc m2 l2 => ret0 ?_))
  have p0 : h2.1 = a0 + 7 := by omega
  have v0 := cu_0 (mo_g m2 (a := a0) (by show ¬ a0 = _; omega) (cu_e u4))
  refine B320_39 (cu_e v0) (by show 6 < 11; omega) ?_
  generalize E : re_hw _ _ _ = g1
  have v1 : cu h2 g1 a0 5 [.int (-1), .int 0, .int 0, .ref (a0 + 1), .ref (a0 + 2), .ref (a0 + 3), .ref (a0 + 4), .null, .int 0, .null, .null] [] := by rw [← E]; exact cu_w v0
  clear E
  have p1 : g1.1 = a0 + 7 := by have e9 : g1.1 = h2.1 + 0 := v1.1; omega
  refine B320_42 (i := 4) (s' := q + 6) rfl (by omega) (by omega) (by omega) ?_
  rw [p1]
  refine B320_46 (cu_e (cu_q v1)) (by show 7 < 11; omega) ?_
  generalize E : re_hw _ _ _ = g2
  have v2 : cu h2 g2 a0 5 [.int (-1), .int 0, .int 0, .ref (a0 + 1), .ref (a0 + 2), .ref (a0 + 3), .ref (a0 + 4), .ref (a0 + 7), .int 0, .null, .null] [(101, List.replicate 4 (.long 0))] := by rw [← E]; exact cu_w (cu_q v1)
  clear E
  have p2 : g2.1 = a0 + 8 := by have e9 : g2.1 = h2.1 + 1 := v2.1; omega
  refine B320_49 (i := 16) (s' := q + 3) rfl (by omega) (by omega) (by omega) ?_
  rw [p2]
  refine B320_54 (cu_e (cu_q v2)) (by show 9 < 11; omega) ?_
  generalize E : re_hw _ _ _ = g3
  have v3 : cu h2 g3 a0 5 [.int (-1), .int 0, .int 0, .ref (a0 + 1), .ref (a0 + 2), .ref (a0 + 3), .ref (a0 + 4), .ref (a0 + 7), .int 0, .ref (a0 + 8), .null] [(101, List.replicate 4 (.long 0)), (100, List.replicate 16 (.int 0))] := by rw [← E]; exact cu_w (cu_q v2)
  clear E
  have p3 : g3.1 = a0 + 9 := by have e9 : g3.1 = h2.1 + 2 := v3.1; omega
  refine B320_57 (i := 16) (s' := q) rfl (by omega) (by omega) (by omega) ?_
  rw [p3]
  refine B320_62 (cu_e (cu_q v3)) (by show 10 < 11; omega) ?_
  generalize E : re_hw _ _ _ = g4
  have v4 : cu h2 g4 a0 5 [.int (-1), .int 0, .int 0, .ref (a0 + 1), .ref (a0 + 2), .ref (a0 + 3), .ref (a0 + 4), .ref (a0 + 7), .int 0, .ref (a0 + 8), .ref (a0 + 9)] [(101, List.replicate 4 (.long 0)), (100, List.replicate 16 (.int 0)), (101, List.replicate 16 (.long 0))] := by rw [← E]; exact cu_w (cu_q v3)
  clear E
  have p4 : g4.1 = a0 + 10 := by have e9 : g4.1 = h2.1 + 3 := v4.1; omega
  obtain ⟨k1, k2, k3⟩ := rs_made hp u4 zc m2 p0 v4
  exact B320_65 (K _ k1 k2 k3)
theorem c320 (e : re_hg h a0 = some (5, [.int 0, .int 0, .int 0, .null, .null, .null, .null, .null, .int 0, .null, .null])) (p0 : h.1 = a0 + 1) (K : ∀ h', (∀ E, rs h' E a0 R00) → mo (fun a => a = a0) 9 h h' → h'.1 = h.1 + 9 → Q 0 .null h') : wp SC 320 (d + 1) (q + 6) 0 [(0, .ref a0)] [] h Q := by
  have u0 := cu_0 e
  refine B320_0 ?_
  refine B320_4 (cu_e u0) (by show 0 < 11; omega) ?_
  generalize E : re_hw _ _ _ = h1
  have u1 : cu h h1 a0 5 [.int (-1), .int 0, .int 0, .null, .null, .null, .null, .null, .int 0, .null, .null] [] := by rw [← E]; exact cu_w u0
  clear E
  have p1 : h1.1 = a0 + 1 := by have e9 : h1.1 = h.1 + 0 := u1.1; omega
  refine B320_9 (i := 4) (s' := q + 6) rfl (by omega) (by omega) (by omega) ?_
  rw [p1]
  refine B320_13 (cu_e (cu_q u1)) (by show 3 < 11; omega) ?_
  generalize E : re_hw _ _ _ = h2
  have u2 : cu h h2 a0 5 [.int (-1), .int 0, .int 0, .ref (a0 + 1), .null, .null, .null, .null, .int 0, .null, .null] [(100, List.replicate 4 (.int 0))] := by rw [← E]; exact cu_w (cu_q u1)
  clear E
  have p2 : h2.1 = a0 + 2 := by have e9 : h2.1 = h.1 + 1 := u2.1; omega
  refine B320_16 (i := 4) (s' := q + 6) rfl (by omega) (by omega) (by omega) ?_
  rw [p2]
  refine B320_20 (cu_e (cu_q u2)) (by show 4 < 11; omega) ?_
  generalize E : re_hw _ _ _ = h3
  have u3 : cu h h3 a0 5 [.int (-1), .int 0, .int 0, .ref (a0 + 1), .ref (a0 + 2), .null, .null, .null, .int 0, .null, .null] [(100, List.replicate 4 (.int 0)), (101, List.replicate 4 (.long 0))] := by rw [← E]; exact cu_w (cu_q u2)
  clear E
  have p3 : h3.1 = a0 + 3 := by have e9 : h3.1 = h.1 + 2 := u3.1; omega
  refine B320_23 (i := 4) (s' := q + 6) rfl (by omega) (by omega) (by omega) ?_
  rw [p3]
  refine B320_28 (cu_e (cu_q u3)) (by show 5 < 11; omega) ?_
  generalize E : re_hw _ _ _ = h4
  have u4 : cu h h4 a0 5 [.int (-1), .int 0, .int 0, .ref (a0 + 1), .ref (a0 + 2), .ref (a0 + 3), .null, .null, .int 0, .null, .null] [(100, List.replicate 4 (.int 0)), (101, List.replicate 4 (.long 0)), (106, List.replicate 4 .null)] := by rw [← E]; exact cu_w (cu_q u3)
  clear E
  have p4 : h4.1 = a0 + 4 := by have e9 : h4.1 = h.1 + 3 := u4.1; omega
  refine B320_31 ?_
  rw [p4]
  exact c320b p0 (cu_q u4) K
end KU
