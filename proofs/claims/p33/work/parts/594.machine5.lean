/-! Machine: one turn. -/
def mEn (sd : Int32) (cl rid : Nat) (e env : Tr) (M : Mt) : Option Mt :=
  if srt e = 3 then mE3 sd cl M else if srt e = 4 then mE4 (wch e) M else if srt e = 5 then mE5 (pb e) (pc e) env M else if srt e = 6 then mE6 (wch e) (pb e) env rid M else if srt e = 8 then mE8 rid M else none
def mBh (I : Nat → Int64) (rid : Nat) (e env : Tr) (M : Mt) : Option Mt :=
  if srt e = 0 then some (gvn (tN (num e)) M) else if srt e = 1 then (lku (wch e) env).map (fun v => gvn v M) else if srt e = 2 then some (gvn (tN (I (wch e))) M) else if srt e = 7 then some (mB7 rid e env M) else if srt e = 4 ∨ srt e = 8 then some (psh (pa e) env false (psh (pb e) env false (psh e env true M))) else some (psh (pa e) env false (psh e env true M))
def mBg (I : Nat → Int64) (rid : Nat) (e env : Tr) (M : Mt) : Option Mt := if M.2.2.1 < 300 then mBh I rid e env (M.1, M.2.1, M.2.2.1 + 1, M.2.2.2) else none
/-- how many are to be ended -/
def en : List (Tr × Tr × Bool) → Nat
  | [] => 0
  | p :: r => (if p.2.2 = true then 1 else 0) + en r
theorem zp_pre {s rb m rr cl rid la : Nat} {kn : Value} {h h1 h' : re_H} {E : Ev} {N : List Nat} {ho ff n k : Nat} {M' : Mt} (r : rn s m rid h E N h1 E N) (z : zp s rb m rr cl rid la kn h1 E N ho ff n k M' h') : zp s rb m rr cl rid la kn h E N ho ff n k M' h' := by
  obtain ⟨E', N', F', z1, z2, z3, z4, z5⟩ := z
  exact ⟨E', N', F', z1, z2, z3, rn_tr r z4, z5⟩
theorem mcz_mw {h h' : re_H} {m s rr ff : Nat} (a : mw m h h') (z : mcz h' m s rr ff) : mcz h' m s rr ff := z
section MG
variable {SC : List Value} {d q : Nat} {h : re_H} {Q : Nat → Value → re_H → Prop} {m s rb rr cl rid : Nat} {S : List (Tr × Tr × Bool)} {V : List Tr} {sp dr B : Nat} {kn : Value} {ff : Nat} {E : Ev} {N F : List Nat} {ho la i2 : Nat} {sd : Int32}
theorem c453 {sr w : Nat} {n : Int64} {a b c env : Tr} {v1 v2 : Value} (z : mch h E m s rr cl (S, V, sp, dr, B) kn ff) (st : sth h E s rb N F ho la) (f : fno E ff) (hB : E.2.1 = B) (u1 : re_hg h rr = some (4, [.ref i2, .int sd])) (he : ex h (tE sr w n a b c) v1) (hi : inps (tE sr w n a b c) < 16) (hn : nd h E env v2) (hw : wT env = true) (hs : isS env = true) (hS : S.length < 604) (hl : V.length ≤ 300) (K0 : mEn sd cl rid (tE sr w n a b c) env (S, V, sp, dr, B) = none → ∀ h', mcz h' m s rr ff → mw m h h' → Q 1 (.int 0) h') (K : ∀ M' h' j, mEn sd cl rid (tE sr w n a b c) env (S, V, sp, dr, B) = some M' → j ≤ 1 → zp s rb m rr cl rid la kn h E N ho ff j 0 M' h' → Q 1 (.int (i32 1)) h') : wp SC 453 (d + 3) q 0 [(0, .ref m), (1, v1), (2, v2)] [] h Q := by
  have zz := mch_z z
  obtain ⟨-, -, _, _, _, _, _, o, -⟩ := id z
  have r1 := ex_R he
  have r2 := nd_R hn
  obtain ⟨⟨hs9, hw16⟩, x, va, vb, vc, rfl, g1, g2, g3, g4⟩ := ex_E.mp he
  have nb : ∀ {T : Option Mt}, (T = none → ∀ h', mcz h' m s rr ff → mw m h h' → Q 1 (.int 0) h') → (T = none → ∀ h', mcz h' m s rr ff → mw m h h' → Q 1 (.int 0) h') := fun y => y
  have hB1 : ∀ M', mEn sd cl rid (tE sr w n a b c) env (S, V, sp, dr, B) = some M' → mEn sd cl rid (tE sr w n a b c) env (S, V, sp, dr, B) = some M' := fun _ y => y
  by_cases c3 : sr = 3
  · subst c3
    have me : mEn sd cl rid (tE 3 w n a b c) env (S, V, sp, dr, B) = mE3 sd cl (S, V, sp, dr, B) := rfl
    rw [me] at K0 K
    refine B453_0_3 r1 r2 rfl ⟨_, g1, rfl⟩ (B453_44 o.2.1 rfl (c454 z u1 hl (fun y h' z' a' => ret1 (B453_48 (Or.inl rfl) (K0 y h' z' a'))) (fun M' h' y z' a' => ret1 (B453_48 (Or.inr rfl) (K M' h' 0 y (by omega) (zp_mw st f ?_ z' a'))))))
    rw [hB]
    unfold mE3 at y
    cases V with
    | nil => cases y
    | cons v r =>
      simp only at y
      split at y
      · cases y
      · cases y; rfl
  by_cases c4 : sr = 4
  · subst c4
    have me : mEn sd cl rid (tE 4 w n a b c) env (S, V, sp, dr, B) = mE4 w (S, V, sp, dr, B) := rfl
    rw [me] at K0 K
    refine B453_0_4 r1 r2 rfl ⟨_, g1, rfl⟩ (B453_49 r1 rfl ⟨_, g1, rfl⟩ o.2.1 rfl (c456 hw16 z hl (fun y h' z' a' => ret1 (B453_57 (Or.inl rfl) (K0 y h' z' a'))) (fun M' h' y z' a' => ret1 (B453_57 (Or.inr rfl) (K M' h' 0 y (by omega) (zp_mw st f ?_ z' a'))))))
    rw [hB]
    match V, y with
    | [], y => cases y
    | [_], y => cases y
    | v1 :: v2 :: r, y =>
      rw [mE4_c] at y
      split at y
      · cases y
      · cases y; rfl
  by_cases c5 : sr = 5
  · subst c5
    have me : mEn sd cl rid (tE 5 w n a b c) env (S, V, sp, dr, B) = mE5 b c env (S, V, sp, dr, B) := rfl
    rw [me] at K0 K
    refine B453_0_5 r1 r2 rfl ⟨_, g1, rfl⟩ (B453_58 r1 r2 o.2.1 rfl (c457 z he hi hn hw hs hS hl (fun y h' z' a' => ret1 (B453_64 (Or.inl rfl) (K0 y h' z' a'))) (fun M' h' y z' a' => ret1 (B453_64 (Or.inr rfl) (K M' h' 0 y (by omega) (zp_mw st f ?_ z' a'))))))
    rw [hB]
    match V, y with
    | [], y => cases y
    | v1 :: r, y =>
      rw [mE5_c] at y
      split at y
      · cases y
      · cases y; rfl
  by_cases c6 : sr = 6
  · subst c6
    have me : mEn sd cl rid (tE 6 w n a b c) env (S, V, sp, dr, B) = mE6 w b env rid (S, V, sp, dr, B) := rfl
    rw [me] at K0 K
    exact B453_0_6 r1 r2 rfl ⟨_, g1, rfl⟩ (B453_65 r1 r2 o.2.1 rfl (c458 z st f hB he hi hn hw hs hS hl (fun y h' z' a' => ret1 (B453_71 (Or.inl rfl) (K0 y h' z' a'))) (fun M' h' y z' => ret1 (B453_71 (Or.inr rfl) (K M' h' 1 y (by omega) z')))))
  by_cases c8 : sr = 8
  · subst c8
    have me : mEn sd cl rid (tE 8 w n a b c) env (S, V, sp, dr, B) = mE8 rid (S, V, sp, dr, B) := rfl
    rw [me] at K0 K
    exact B453_0_8 r1 r2 rfl ⟨_, g1, rfl⟩ (B453_72 o.2.1 rfl (c459 z st f hB hS hl (fun y h' z' a' => ret1 (B453_76 (Or.inl rfl) (K0 y h' z' a'))) (fun M' h' y z' => ret1 (B453_76 (Or.inr rfl) (K M' h' 1 y (by omega) z')))))
  have me : mEn sd cl rid (tE sr w n a b c) env (S, V, sp, dr, B) = none := by
    show (if sr = 3 then mE3 sd cl (S, V, sp, dr, B) else if sr = 4 then mE4 w (S, V, sp, dr, B) else if sr = 5 then mE5 b c env (S, V, sp, dr, B) else if sr = 6 then mE6 w b env rid (S, V, sp, dr, B) else if sr = 8 then mE8 rid (S, V, sp, dr, B) else none) = none
    rw [if_neg c3, if_neg c4, if_neg c5, if_neg c6, if_neg c8]
  have fin : Q 1 (.int 0) h := K0 me h zz mw_rf
  by_cases c7 : sr = 7
  · subst c7
    exact B453_0_7 r1 r2 rfl ⟨_, g1, rfl⟩ (B453_77 fin)
  · exact B453_0 r1 r2 rfl ⟨_, g1, rfl⟩ (Or.inl (by rw [i3_toInt (by omega)]; omega)) (B453_77 fin)
theorem c460 {sr w : Nat} {n : Int64} {a b c env : Tr} {v1 v2 : Value} {I : Nat → Int64} (z : mch h E m s rr cl (S, V, sp, dr, B) kn ff) (st : sth h E s rb N F ho la) (f : fno E ff) (hB : E.2.1 = B) (hk : ff + 1 < 2 ^ 62) (u1 : re_hg h rr = some (4, [.ref i2, .int sd])) (u2 : re_hg h i2 = some (101, lst 4 (fun i => .long (I i)))) (hi2 : ¬ inM m i2) (he : ex h (tE sr w n a b c) v1) (hi : inps (tE sr w n a b c) < 16) (hn : nd h E env v2) (hw : wT env = true) (hs : isS env = true) (hS : S.length + 3 ≤ 604) (hl : V.length ≤ 300) (hsp : sp ≤ 300) (K0 : mBg I rid (tE sr w n a b c) env (S, V, sp, dr, B) = none → ∀ h', mcz h' m s rr ff → mw m h h' → Q 1 (.int 0) h') (K : ∀ M' h' j k, mBg I rid (tE sr w n a b c) env (S, V, sp, dr, B) = some M' → j + en M'.1 ≤ en S + 1 → k ≤ 1 → zp s rb m rr cl rid la kn h E N ho ff j k M' h' → Q 1 (.int (i32 1)) h') : wp SC 460 (d + 3) q 0 [(0, .ref m), (1, v1), (2, v2)] [] h Q := by
  have zz := mch_z z
  obtain ⟨hh, rk, ps, ss, es, ns, fs, o, l, zs, zv⟩ := z
  have r1 := ex_R he
  have r2 := nd_R hn
  obtain ⟨⟨hs9, hw16⟩, x, va, vb, vc, rfl, g1, g2, g3, g4⟩ := ex_E.mp he
  have ii := inps_le hi
  refine B460_0 r1 r2 ⟨_, o.2.1, rfl⟩ (fun g => ?_) (fun g => B460_10 (K0 (if_neg (fun y => g ((i3_lt (by omega) (by omega)).mpr y))) h zz mw_rf))
  have hsp : sp < 300 := (i3_lt (by omega) (by omega)).mp g
  have mb : mBg I rid (tE sr w n a b c) env (S, V, sp, dr, B) = mBh I rid (tE sr w n a b c) env (S, V, sp + 1, dr, B) := if_pos hsp
  rw [mb] at K0 K
  refine B460_12 r1 r2 ⟨_, o.2.1, rfl⟩ o.2.1 (Nat.lt_of_sub_eq_succ rfl) ?_
  rw [i3_add]
  have o1 := m6_0 o 10 (.int (i32 (sp + 1)))
  obtain ⟨z2, q2⟩ := mk_mch (S := S) (V := V) (sp := sp + 1) (dr := dr) (B := B) hh rk o o1 l zs zv
  obtain ⟨st1, rn1⟩ := mw_rn (rid := rid) st q2
  have g1' := q2.2.2 x 9 _ g1 (by omega) (by omega)
  have he1 := ex_xk (mw_xk q2) he
  have hn1 := mw_nd hh q2 hn
  have ga1 := ex_xk (mw_xk q2) g2
  have gb1 := ex_xk (mw_xk q2) g3
  by_cases c0 : sr = 0
  · subst c0
    exact B460_22_0 r1 r2 rfl ⟨_, g1', rfl⟩ (B460_76 r1 rfl ⟨_, g1', rfl⟩ o1.2.1 rfl (c455 (v := tN n) z2 (Or.inl ⟨rfl, rfl⟩) rfl hl (fun h' z' a' => ret1 (B460_85 (Or.inr rfl) (K _ h' 0 0 rfl (by show 0 + en S ≤ en S + 1; omega) (by omega) (zp_pre rn1 (zp_mw st1 f hB z' a')))))))
  by_cases c1 : sr = 1
  · subst c1
    have me : mBh I rid (tE 1 w n a b c) env (S, V, sp + 1, dr, B) = (lku w env).map (fun v => gvn v (S, V, sp + 1, dr, B)) := rfl
    rw [me] at K0 K
    exact B460_22_1 r1 r2 rfl ⟨_, g1', rfl⟩ (B460_86 r1 r2 rfl ⟨_, g1', rfl⟩ o1.2.1 rfl (c461 z2 hw16 hn1 hw hs hl (fun y => ret1 (B460_95 (Or.inl rfl) (K0 (by rw [y]; rfl) _ (mch_z z2) q2))) (fun v h' y z' a' => ret1 (B460_95 (Or.inr rfl) (K _ h' 0 0 (by rw [y]; rfl) (by show 0 + en S ≤ en S + 1; omega) (by omega) (zp_pre rn1 (zp_mw st1 f hB z' a')))))))
  by_cases c2 : sr = 2
  · subst c2
    have w4 := ii.2.2.2 rfl
    exact B460_22_2 r1 r2 rfl ⟨_, g1', rfl⟩ (B460_96 r1 ⟨_, o1.2.1, rfl⟩ ⟨_, q2.2.2 rr 4 _ u1 (by omega) (by omega), rfl⟩ rfl ⟨_, g1', rfl⟩ ⟨_, w, (q2.2.1 i2 hi2).trans u2, rfl, by omega, lst_get _ w4⟩ o1.2.1 rfl (c455 (v := tN (I w)) z2 (Or.inl ⟨rfl, rfl⟩) rfl hl (fun h' z' a' => ret1 (B460_113 (Or.inr rfl) (K _ h' 0 0 rfl (by show 0 + en S ≤ en S + 1; omega) (by omega) (zp_pre rn1 (zp_mw st1 f hB z' a')))))))
  by_cases c7 : sr = 7
  · subst c7
    exact B460_22_7 r1 r2 rfl ⟨_, g1', rfl⟩ (B460_114 r1 r2 o1.2.1 rfl (c462 z2 st1 f hB hk he1 hi hn1 hw hs hl (fun h' z' => ret1 (B460_120 (Or.inr rfl) (K _ h' 1 1 rfl (by show 1 + en S ≤ en S + 1; omega) (by omega) (zp_pre rn1 z'))))))
  by_cases c48 : sr = 4 ∨ sr = 8
  · have me : mBh I rid (tE sr w n a b c) env (S, V, sp + 1, dr, B) = some (psh a env false (psh b env false (psh (tE sr w n a b c) env true (S, V, sp + 1, dr, B)))) := by
      rcases c48 with rfl | rfl <;> rfl
    rw [me] at K
    have tail : wp SC 460 (d + 3) q 121 [(0, .ref m), (1, .ref x), (2, v2)] [] (re_hw h m (7, (mW s rr m (i32 S.length) (i32 V.length) (i32 cl) (i32 sp) (i32 dr) kn ff).set 10 (.int (i32 (sp + 1))))) Q := by
      refine B460_121 r1 r2 o1.2.1 rfl (c452 (b := true) z2 he1 hi hn1 hw hs (by show S.length < 604; omega) (fun h3 z3 a3 => ret0 ?_))
      obtain ⟨hh3, -, _, _, _, _, _, o3, -⟩ := id z3
      refine B460_128 r1 r2 rfl (ex_R gb1) ⟨_, a3.2.2 x 9 _ g1' (by omega) (by omega), rfl⟩ o3.2.1 rfl (c452 (b := false) z3 (ex_xk (mw_xk a3) gb1) ii.2.1 (mw_nd z2.1 a3 hn1) hw hs (by show S.length + 1 < 604; omega) (fun h4 z4 a4 => ret0 ?_))
      obtain ⟨hh4, -, _, _, _, _, _, o4, -⟩ := id z4
      have a34 := mw_tr a3 a4
      refine B460_138 r1 r2 rfl (ex_R ga1) ⟨_, a34.2.2 x 9 _ g1' (by omega) (by omega), rfl⟩ o4.2.1 rfl (c452 (b := false) z4 (ex_xk (mw_xk a34) ga1) ii.1 (mw_nd z2.1 a34 hn1) hw hs (by show S.length + 1 + 1 < 604; omega) (fun h5 z5 a5 => ret0 (B460_148 (K _ h5 0 0 rfl (by show 0 + (0 + (0 + (1 + en S))) ≤ en S + 1; omega) (by omega) (zp_pre rn1 (zp_mw st1 f hB z5 (mw_tr a34 a5)))))))
    rcases c48 with rfl | rfl
    · exact B460_22_4 r1 r2 rfl ⟨_, g1', rfl⟩ tail
    · exact B460_22_8 r1 r2 rfl ⟨_, g1', rfl⟩ tail
  have me : mBh I rid (tE sr w n a b c) env (S, V, sp + 1, dr, B) = some (psh a env false (psh (tE sr w n a b c) env true (S, V, sp + 1, dr, B))) := by
    show (if sr = 0 then some _ else if sr = 1 then _ else if sr = 2 then some _ else if sr = 7 then some _ else if sr = 4 ∨ sr = 8 then some _ else some _) = _
    rw [if_neg c0, if_neg c1, if_neg c2, if_neg c7, if_neg c48]
    rfl
  rw [me] at K
  have tail : wp SC 460 (d + 3) q 150 [(0, .ref m), (1, .ref x), (2, v2)] [] (re_hw h m (7, (mW s rr m (i32 S.length) (i32 V.length) (i32 cl) (i32 sp) (i32 dr) kn ff).set 10 (.int (i32 (sp + 1))))) Q := by
    refine B460_150 r1 r2 o1.2.1 rfl (c452 (b := true) z2 he1 hi hn1 hw hs (by show S.length < 604; omega) (fun h3 z3 a3 => ret0 ?_))
    obtain ⟨hh3, -, _, _, _, _, _, o3, -⟩ := id z3
    exact B460_157 r1 r2 rfl (ex_R ga1) ⟨_, a3.2.2 x 9 _ g1' (by omega) (by omega), rfl⟩ o3.2.1 rfl (c452 (b := false) z3 (ex_xk (mw_xk a3) ga1) ii.1 (mw_nd z2.1 a3 hn1) hw hs (by show S.length + 1 < 604; omega) (fun h5 z5 a5 => ret0 (B460_167 (K _ h5 0 0 rfl (by show 0 + (0 + (1 + en S)) ≤ en S + 1; omega) (by omega) (zp_pre rn1 (zp_mw st1 f hB z5 (mw_tr a3 a5)))))))
  have c356 : sr = 3 ∨ sr = 5 ∨ sr = 6 := by omega
  rcases c356 with rfl | rfl | rfl
  · exact B460_22_3 r1 r2 rfl ⟨_, g1', rfl⟩ tail
  · exact B460_22_5 r1 r2 rfl ⟨_, g1', rfl⟩ tail
  · exact B460_22_6 r1 r2 rfl ⟨_, g1', rfl⟩ tail
end MG
