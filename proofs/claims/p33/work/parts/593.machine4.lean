/-! Machine: what is ended with a node. -/
def pd : Tr → Tr
  | .inner _ _ _ _ b => b
  | _ => .leaf
def mE6 (w : Nat) (b env : Tr) (rid : Nat) (M : Mt) : Option Mt :=
  match M.2.1 with
  | [] => none
  | v :: r => some (psh b (tB w rid v env) false (M.1, r, M.2.2))
def mE8 (rid : Nat) (M : Mt) : Option Mt :=
  match M.2.1 with
  | [] => none
  | [_] => none
  | v :: f :: r => if isC f = true then some (psh (pb (pa f)) (tB (wch (pa f)) rid v (pd f)) false (M.1, r, M.2.2)) else none
theorem mE8_c {rid sp dr B : Nat} {S : List (Tr × Tr × Bool)} {f v : Tr} {r : List Tr} : mE8 rid (S, v :: f :: r, sp, dr, B) = if isC f = true then some (psh (pb (pa f)) (tB (wch (pa f)) rid v (pd f)) false (S, r, sp, dr, B)) else none := rfl
def mB7 (rid : Nat) (e env : Tr) (M : Mt) : Mt := gvn (tC M.2.2.2.2 rid e env) (M.1, M.2.1, M.2.2.1, M.2.2.2.1, M.2.2.2.2 + 1)
theorem hn2_len {h h' : re_H} {s rb : Nat} {N F : List Nat} {ho la x : Nat} {N' F' : List Nat} (o : sto h s rb N F ho la) (d : hn2 h h' s rb N F ho la x N' F') : N'.length ≤ max N.length (ho + 1 + la) := by
  have cn := o.2.2.2.2.2.1
  rcases d.1 with ⟨-, g, -⟩ | ⟨g0, -, g, -⟩
  · rw [g]; omega
  · rw [g, List.length_cons]
    rw [g0] at cn
    simp only [List.length_nil] at cn
    omega
/-- behind a piece of a run: n nodes were handed out, k functions made -/
def zp (s rb m rr cl rid la : Nat) (kn : Value) (h : re_H) (E : Ev) (N : List Nat) (ho ff n k : Nat) (M' : Mt) (h' : re_H) : Prop := ∃ (E' : Ev) (N' F' : List Nat), sth h' E' s rb N' F' (ho + n) la ∧ fno E' (ff + k) ∧ E'.2.1 = M'.2.2.2.2 ∧ rn s m rid h E N h' E' N' ∧ mch h' E' m s rr cl M' kn (ff + k) ∧ N'.length ≤ max N.length (ho + n + la)
theorem zp_mw {s rb m rr cl rid la : Nat} {kn : Value} {h h' : re_H} {E : Ev} {N F : List Nat} {ho ff : Nat} {M' : Mt} (st : sth h E s rb N F ho la) (f : fno E ff) (hB : E.2.1 = M'.2.2.2.2) (z : mch h' E m s rr cl M' kn ff) (a : mw m h h') : zp s rb m rr cl rid la kn h E N ho ff 0 0 M' h' :=
  ⟨E, N, F, (mw_rn (rid := rid) st a).1, f, hB, (mw_rn st a).2, z, Nat.le_max_left _ _⟩
section MF
variable {SC : List Value} {d q : Nat} {h : re_H} {Q : Nat → Value → re_H → Prop} {m s rb rr cl rid : Nat} {S : List (Tr × Tr × Bool)} {V : List Tr} {sp dr B : Nat} {kn : Value} {ff : Nat} {E : Ev} {N F : List Nat} {ho la : Nat}
theorem c458 {sr w : Nat} {n : Int64} {a b c env : Tr} {v1 v2 : Value} (z : mch h E m s rr cl (S, V, sp, dr, B) kn ff) (st : sth h E s rb N F ho la) (f : fno E ff) (hB : E.2.1 = B) (he : ex h (tE sr w n a b c) v1) (hi : inps (tE sr w n a b c) < 16) (hn : nd h E env v2) (hw : wT env = true) (hs : isS env = true) (hS : S.length < 604) (hl : V.length ≤ 300) (K0 : mE6 w b env rid (S, V, sp, dr, B) = none → ∀ h', mcz h' m s rr ff → mw m h h' → Q 1 (.int 0) h') (K : ∀ M' h', mE6 w b env rid (S, V, sp, dr, B) = some M' → zp s rb m rr cl rid la kn h E N ho ff 1 0 M' h' → Q 1 (.int (i32 1)) h') : wp SC 458 (d + 2) q 0 [(0, .ref m), (1, v1), (2, v2)] [] h Q := by
  have zz := mch_z z
  obtain ⟨hh, rk, ps, ss, es, ns, fs, o, l, zs, zv⟩ := z
  have r2 := nd_R hn
  obtain ⟨⟨-, hw16⟩, x, va, vb, vc, rfl, g1, g2, g3, g4⟩ := ex_E.mp he
  have ii := inps_le hi
  cases V with
  | nil => exact B458_0 (Or.inr ⟨x, rfl⟩) r2 ⟨_, o.2.1, rfl⟩ (fun g => absurd ((i3_lt (a := 0) (b := 1) (by omega) (by omega)).mpr (by omega)) g) (fun _ => B458_8 (K0 rfl h zz mw_rf))
  | cons v r =>
    obtain ⟨⟨nu, fn, n1, n2, n3, n4⟩, zv⟩ := zv
    have hl : r.length + 1 ≤ 300 := hl
    have eq1 : i32 (r.length + 1) - i32 1 = i32 r.length := i3_sub (by omega)
    refine B458_0 (Or.inr ⟨x, rfl⟩) r2 ⟨_, o.2.1, rfl⟩ (fun _ => ?_) (fun g => absurd ((i3_lt (a := r.length + 1) (b := 1) (by omega) (by omega)).mp g) (by omega))
    refine B458_10 (Or.inr ⟨x, rfl⟩) r2 ⟨_, o.2.1, rfl⟩ o.2.1 (Nat.lt_of_sub_eq_succ rfl) ?_
    rw [show i32 (v :: r).length - i32 1 = i32 r.length from eq1]
    have o1 := m6_0 o 8 (.int (i32 r.length))
    obtain ⟨z2, q2⟩ := mk_mch (S := S) (V := r) (sp := sp) (dr := dr) (B := B) hh rk o o1 l zs zv
    obtain ⟨st1, rn1⟩ := mw_rn (rid := rid) st q2
    have g1' := q2.2.2 x 9 _ g1 (by omega) (by omega)
    obtain ⟨vl', vf', es', -⟩ := st1.1.1
    refine B458_20 (Or.inr ⟨x, rfl⟩) r2 rfl (ex_R g3) ⟨_, g1', rfl⟩ ⟨_, o1.2.1, rfl⟩ ⟨_, g1', rfl⟩ ⟨_, o1.2.1, rfl⟩ ⟨_, o1.2.1, rfl⟩ ⟨_, r.length, o1.2.2.2.2.2.1, rfl, by omega, n1⟩ ⟨_, o1.2.1, rfl⟩ ⟨_, o1.2.1, rfl⟩ (vl_R n3) ⟨_, r.length, o1.2.2.2.2.2.2.1, rfl, by omega, n2⟩ es' rfl (c388 st1.1 (vl_R n3) r2 (fun h2 x2 N' F' hd => ret3 ?_))
    have hx2 : ¬ E.2.2.1 x2 := fun y => hd.2.2.2.2.2.2 (st1.2 x2 y)
    obtain ⟨st2, rn2, z3, kn', kv⟩ := hn2_keep (rid := rid) (E' := eAd E x2 rid) st1 (hnd_2 hd) (eAd_le hx2) eAd_x z2
    obtain ⟨mb, e2⟩ := hd.2.2.1
    obtain ⟨-, -, ps', ss', es3, ns', fs', o3, -⟩ := id z3
    refine B458_55 (Or.inr ⟨x2, rfl⟩) (ex_R g3) o3.2.1 rfl (c452 (b := false) (e := b) (env := tB w rid v env) z3 (ex_xk rn2.2.2.1 (ex_xk (mw_xk q2) g3)) ii.2.1 (nd_B.mpr ⟨x2, nu, fn, v2, .int 0, mb, .null, rfl, Or.inr rfl, if_pos rfl, e2, kn' _ _ (mw_nd hh q2 hn), hw16, kv _ _ _ (mw_vl hh q2 n3)⟩) (by rw [wT_B, n4, hw, hs]; rfl) rfl hS (fun h4 z4 a4 => ret0 (B458_59 (K _ h4 rfl ⟨eAd E x2 rid, N', F', (mw_rn (rid := rid) st2 a4).1, fno_Ad f, hB, rn_tr rn1 (rn_tr rn2 (mw_rn st2 a4).2), z4, hn2_len st1.1 (hnd_2 hd)⟩))))
theorem c459 (z : mch h E m s rr cl (S, V, sp, dr, B) kn ff) (st : sth h E s rb N F ho la) (f : fno E ff) (hB : E.2.1 = B) (hS : S.length < 604) (hl : V.length ≤ 300) (K0 : mE8 rid (S, V, sp, dr, B) = none → ∀ h', mcz h' m s rr ff → mw m h h' → Q 1 (.int 0) h') (K : ∀ M' h', mE8 rid (S, V, sp, dr, B) = some M' → zp s rb m rr cl rid la kn h E N ho ff 1 0 M' h' → Q 1 (.int (i32 1)) h') : wp SC 459 (d + 2) q 0 [(0, .ref m)] [] h Q := by
  have zz := mch_z z
  obtain ⟨hh, rk, ps, ss, es, ns, fs, o, l, zs, zv⟩ := z
  match V, zv, hl, o, K0, K with
  | [], zv, hl, o, K0, K => exact B459_0 ⟨_, o.2.1, rfl⟩ (fun g => absurd ((i3_lt (a := 0) (b := 2) (by omega) (by omega)).mpr (by omega)) g) (fun _ => B459_8 (K0 rfl h zz mw_rf))
  | [b], zv, hl, o, K0, K => exact B459_0 ⟨_, o.2.1, rfl⟩ (fun g => absurd ((i3_lt (a := 1) (b := 2) (by omega) (by omega)).mpr (by omega)) g) (fun _ => B459_8 (K0 rfl h zz mw_rf))
  | v :: fv :: r, zv, hl, o, K0, K =>
    obtain ⟨⟨nu, fn, m1, m2, m3, m4⟩, ⟨na, fa, n1, n2, n3, n4⟩, zv⟩ := zv
    have hl : r.length + 1 + 1 ≤ 300 := hl
    have eq2 : i32 (r.length + 1 + 1) - i32 2 = i32 r.length := i3_sub (by omega)
    refine B459_0 ⟨_, o.2.1, rfl⟩ (fun _ => ?_) (fun g => absurd ((i3_lt (a := r.length + 1 + 1) (b := 2) (by omega) (by omega)).mp g) (by omega))
    refine B459_10 ⟨_, o.2.1, rfl⟩ o.2.1 (Nat.lt_of_sub_eq_succ rfl) ?_
    rw [show i32 (v :: fv :: r).length - i32 2 = i32 r.length from eq2]
    have o1 := m6_0 o 8 (.int (i32 r.length))
    obtain ⟨z2, q2⟩ := mk_mch (S := S) (V := r) (sp := sp) (dr := dr) (B := B) hh rk o o1 l zs zv
    obtain ⟨st1, rn1⟩ := mw_rn (rid := rid) st q2
    obtain ⟨vl', vf', es', -⟩ := st1.1.1
    rcases vl_cases n3 with ⟨rfl, rfl⟩ | ⟨st', rid', code, env', rfl, zf⟩
    · exact B459_20 ⟨_, o1.2.1, rfl⟩ ⟨_, o1.2.1, rfl⟩ (Or.inl rfl) ⟨_, r.length, o1.2.2.2.2.2.2.1, rfl, by omega, n2⟩ (fun _ => B459_41 (K0 (by rw [mE8_c, if_neg (isC_N _)]) _ (mch_z z2) q2)) (fun b hb => by cases hb)
    have zf1 := mw_nd hh q2 zf
    obtain ⟨xf, c0, nm, c4, c5, c6, c7, rfl, y1, y2, y3, y4, y5, y6, y7⟩ := nd_C.mp zf1
    refine B459_20 ⟨_, o1.2.1, rfl⟩ ⟨_, o1.2.1, rfl⟩ (Or.inr ⟨xf, rfl⟩) ⟨_, r.length, o1.2.2.2.2.2.2.1, rfl, by omega, n2⟩ (fun hb => by cases hb) (fun b hb => ?_)
    cases hb
    rcases ex_cases y6 with ⟨g, -⟩ | ⟨sr, w, n, a, b, c, xc, va, vb, vc, rfl, rfl, ⟨-, hw16⟩, g1, g2, g3, g4⟩
    · exact absurd g y7
    refine B459_34 (Or.inr ⟨xc, rfl⟩) ⟨_, y3, rfl⟩ (fun hb => by cases hb) (fun b' hb => ?_)
    rw [wT_C, Bool.and_eq_true, Bool.and_eq_true] at n4
    have ii := inps_le (of_decide_eq_true n4.1.1)
    refine B459_43 ⟨_, o1.2.1, rfl⟩ (Or.inr ⟨xc, rfl⟩) ⟨_, y3, rfl⟩ rfl ⟨_, g1, rfl⟩ ⟨_, o1.2.1, rfl⟩ ⟨_, o1.2.1, rfl⟩ ⟨_, r.length + 1, o1.2.2.2.2.2.1, i3_add _ _, by omega, m1⟩ ⟨_, o1.2.1, rfl⟩ ⟨_, o1.2.1, rfl⟩ (vl_R m3) ⟨_, r.length + 1, o1.2.2.2.2.2.2.1, i3_add _ _, by omega, m2⟩ (nd_R y4) ⟨_, y3, rfl⟩ es' rfl (c388 st1.1 (vl_R m3) (nd_R y4) (fun h2 x2 N' F' hd => ret3 ?_))
    have hx2 : ¬ E.2.2.1 x2 := fun y => hd.2.2.2.2.2.2 (st1.2 x2 y)
    obtain ⟨st2, rn2, z3, kn', kv⟩ := hn2_keep (rid := rid) (E' := eAd E x2 rid) st1 (hnd_2 hd) (eAd_le hx2) eAd_x z2
    obtain ⟨mb, e2⟩ := hd.2.2.1
    obtain ⟨-, -, ps', ss', es3, ns', fs', o3, -⟩ := id z3
    have y3' : re_hg h2 xf = some (10, [.ref xc, .int nm, .long (sg E st'), .null, c4, c5, c6, c7]) := by
      have hxN := (st1.2 xf y1).1
      rw [hd.2.2.2.1 xf (hg_lt y3) (sto_ne st1.1 hxN es' (by omega)) (fun g => hx2 (g ▸ y1))]
      exact y3
    refine B459_83 (Or.inr ⟨x2, rfl⟩) (Or.inr ⟨xc, rfl⟩) ⟨_, y3', rfl⟩ rfl (ex_R g3) ⟨_, rn2.2.2.1 _ _ g1, rfl⟩ o3.2.1 rfl (c452 (b := false) (e := b) (env := tB w rid v env') z3 (ex_xk rn2.2.2.1 g3) ii.2.1 (nd_B.mpr ⟨x2, nu, fn, c4, .int 0, mb, .null, rfl, Or.inr rfl, if_pos rfl, e2, kn' _ _ y4, hw16, kv _ _ _ (mw_vl hh q2 m3)⟩) (by rw [wT_B, m4, n4.1.2, n4.2]; rfl) rfl hS (fun h4 z4 a4 => ret0 (B459_97 (K _ h4 rfl ⟨eAd E x2 rid, N', F', (mw_rn (rid := rid) st2 a4).1, fno_Ad f, hB, rn_tr rn1 (rn_tr rn2 (mw_rn st2 a4).2), z4, hn2_len st1.1 (hnd_2 hd)⟩))))
theorem c462 {sr w : Nat} {n : Int64} {a b c env : Tr} {v1 v2 : Value} (z : mch h E m s rr cl (S, V, sp, dr, B) kn ff) (st : sth h E s rb N F ho la) (f : fno E ff) (hB : E.2.1 = B) (hk : ff + 1 < 2 ^ 62) (he : ex h (tE sr w n a b c) v1) (hi : inps (tE sr w n a b c) < 16) (hn : nd h E env v2) (hw : wT env = true) (hs : isS env = true) (hl : V.length ≤ 300) (K : ∀ h', zp s rb m rr cl rid la kn h E N ho ff 1 1 (mB7 rid (tE sr w n a b c) env (S, V, sp, dr, B)) h' → Q 1 (.int (i32 1)) h') : wp SC 462 (d + 2) q 0 [(0, .ref m), (1, v1), (2, v2)] [] h Q := by
  have z0 := z
  obtain ⟨hh, rk, ps, ss, es, ns, fs, o, l, zs, zv⟩ := z
  have r2 := nd_R hn
  have r1 := ex_R he
  obtain ⟨⟨-, hw16⟩, x, va, vb, vc, rfl, g1, g2, g3, g4⟩ := ex_E.mp he
  obtain ⟨vl', vf', es', -⟩ := st.1.1
  subst hB
  refine B462_0 r1 r2 ⟨_, o.2.1, rfl⟩ rfl ⟨_, g1, rfl⟩ ⟨_, o.2.1, rfl⟩ es' rfl (c388 st.1 (Or.inl rfl) r2 (fun h2 x2 N' F' hd => ret3 ?_))
  have hx2 : ¬ E.2.2.1 x2 := fun y => hd.2.2.2.2.2.2 (st.2 x2 y)
  obtain ⟨mb, e2⟩ := hd.2.2.1
  refine B462_17 r1 (Or.inr ⟨x2, rfl⟩) rfl e2 (by simp) ?_
  have d3 := hn2_x (hnd_2 hd) e2 r1
  obtain ⟨st3, rn3, z3, kn', kv⟩ := hn2_keep (rid := rid) (E' := eFn (eAd E x2 rid) ff) st d3 (eLe_tr (eAd_le hx2) eFn_le) (eAd_x (E := E) (x := x2) (rid := rid)) z0
  have e3 : re_hg (re_hw h2 x2 (10, ([.null, .int (i32 w), .long (Int64.ofNat ff), .null, v2, .int 0, mb, .null] : List Value).set 0 (.ref x))) x2 = some (10, [.ref x, .int (i32 w), .long (Int64.ofNat ff), .null, v2, .int 0, mb, .null]) := hw_s (hg_lt e2)
  obtain ⟨hh3, -, ps3, ss3, es3, ns3, fs3, o3, l3, zs3, zv3⟩ := z3
  refine B462_23 (Or.inr ⟨x2, rfl⟩) ⟨_, o3.2.1, rfl⟩ o3.2.1 (Nat.lt_of_sub_eq_succ rfl) ?_
  rw [show Int64.ofNat ff + 1 = Int64.ofNat (ff + 1) from (Int64.ofNat_add ff 1).symm]
  have o4 := m6_0 o3 13 (.long (Int64.ofNat (ff + 1)))
  obtain ⟨z4, q4⟩ := mk_mch (S := S) (V := V) (sp := sp) (dr := dr) (B := E.2.1 + 1) hh3 rk o3 o4 l3 zs3 zv3
  obtain ⟨st4, rn4⟩ := mw_rn (rid := rid) st3 q4
  have sge : sg (eFn (eAd E x2 rid) ff) E.2.1 = Int64.ofNat ff := by
    show Int64.ofNat (if E.2.1 = E.2.1 then ff else E.1 E.2.1) = _
    rw [if_pos rfl]
  have ndx : nd (re_hw h2 x2 (10, ([.null, .int (i32 w), .long (Int64.ofNat ff), .null, v2, .int 0, mb, .null] : List Value).set 0 (.ref x))) (eFn (eAd E x2 rid) ff) (tC E.2.1 rid (tE sr w n a b c) env) (.ref x2) :=
    nd_C.mpr ⟨x2, .ref x, i32 w, v2, .int 0, mb, .null, rfl, Or.inr rfl, if_pos rfl, by rw [sge]; exact e3, kn' _ _ hn, Nat.lt_succ_self _, ex_xk rn3.2.2.1 he, fun y => by cases y⟩
  refine B462_33 (Or.inr ⟨x2, rfl⟩) o4.2.1 rfl (c455 (v := tC E.2.1 rid (tE sr w n a b c) env) z4 (Or.inr ⟨rfl, mw_nd hh3 q4 ndx⟩) (by rw [wT_C, hw, hs, decide_eq_true hi]; rfl) hl (fun h' z' a' => ret1 (B462_39 (Or.inr rfl) (K h' ⟨eFn (eAd E x2 rid) ff, N', F', (mw_rn (rid := rid) st4 a').1, fno_Fn (fno_Ad f) hk, rfl, rn_tr rn3 (rn_tr rn4 (mw_rn st4 a').2), z', hn2_len st.1 d3⟩))))
end MF
