/-! Machine: what is ended without a node. -/
def pa : Tr → Tr
  | .inner _ _ _ a _ => a
  | _ => .leaf
def pb : Tr → Tr
  | .inner _ _ _ _ (.inner _ _ _ b _) => b
  | _ => .leaf
def pc : Tr → Tr
  | .inner _ _ _ _ (.inner _ _ _ _ c) => c
  | _ => .leaf
def srt (e : Tr) : Nat := stp e
def wch : Tr → Nat
  | .inner _ l _ _ _ => l.2.1
  | _ => 0
theorem vl_null {h : re_H} {E : Ev} {v : Tr} {nu : Int64} (z : vl h E v nu .null) : v = tN nu := by
  rcases z with z | ⟨hc, z⟩
  · exact z.2
  · rw [nd_null z] at hc
    cases hc
theorem vl_ref {h : re_H} {E : Ev} {v : Tr} {nu : Int64} {x : Nat} (z : vl h E v nu (.ref x)) : isC v = true := by
  rcases z with z | ⟨hc, -⟩
  · cases z.1
  · exact hc
theorem inps_le {sr w : Nat} {n : Int64} {a b c : Tr} (hi : inps (tE sr w n a b c) < 16) : inps a < 16 ∧ inps b < 16 ∧ inps c < 16 ∧ (sr = 2 → w < 4) := by
  rw [inps_E] at hi
  have l1 : ∀ x y : Nat, x ||| y < 16 → x < 16 ∧ y < 16 := fun x y g => ⟨Nat.lt_of_le_of_lt Nat.left_le_or g, Nat.lt_of_le_of_lt Nat.right_le_or g⟩
  have h1 := l1 _ _ hi
  have h2 := l1 _ _ h1.1
  have h3 := l1 _ _ h2.1
  refine ⟨h3.2, h2.2, h1.2, fun y => ?_⟩
  have h4 := h3.1
  rw [if_pos y] at h4
  rcases Nat.lt_or_ge w 4 with g | g
  · exact g
  · have := Nat.pow_le_pow_right (n := 2) (by omega) g
    omega
def dr1 (sd : Int32) (cl dr : Nat) : Int32 := ((((((sd * (i32 31)) + ((i32 cl) * (i32 17))) + (i32 dr)) * (1664525)) + (1013904223)).toUInt32 >>> ((i32 16).toUInt32 &&& Int32.toUInt32 31)).toInt32
def dr2 (n : Int64) : Int32 := (if (2147483647) < n then (2147483647) else n).toInt32
def drn (sd : Int32) (cl dr : Nat) (n : Int64) : Int64 := (dr1 sd cl dr - dr1 sd cl dr / dr2 n * dr2 n).toInt64
theorem dr2_pos {n : Int64} (g : ¬ n < 1) : (0 : Int32) < dr2 n := by
  unfold dr2
  split
  · decide
  next g2 =>
    rw [Int64.lt_iff_toInt_lt] at g g2
    rw [Int32.lt_iff_toInt_lt, Int64.toInt_toInt32]
    have e1 : (1 : Int64).toInt = 1 := by decide
    have e2 : (2147483647 : Int64).toInt = 2147483647 := by decide
    have e3 : (0 : Int32).toInt = 0 := by decide
    rw [e1] at g
    rw [e2] at g2
    rw [e3, Int.bmod_eq_of_le (by omega) (by omega)]
    omega
def mE3 (sd : Int32) (cl : Nat) (M : Mt) : Option Mt :=
  match M.2.1 with
  | [] => none
  | v :: r => if isC v = true ∨ num v < 1 then none else some (M.1, tN (drn sd cl (M.2.2.2.1 + 1) (num v)) :: r, M.2.2.1, M.2.2.2.1 + 1, M.2.2.2.2)
def opr (w : Nat) (a b : Int64) : Int64 := if w = 0 then a + b else if w = 1 then a - b else if w = 2 then a * b else if a < b then 1 else 0
def mE4 (w : Nat) (M : Mt) : Option Mt :=
  match M.2.1 with
  | [] => none
  | [_] => none
  | b :: a :: r => if isC b = true ∨ isC a = true then none else some (M.1, tN (opr w (num a) (num b)) :: r, M.2.2)
def mE5 (b c env : Tr) (M : Mt) : Option Mt :=
  match M.2.1 with
  | [] => none
  | v :: r => if isC v = true then none else some (psh (if num v = 0 then c else b) env false (M.1, r, M.2.2))
theorem mE4_c {w sp dr B : Nat} {S : List (Tr × Tr × Bool)} {a b : Tr} {r : List Tr} : mE4 w (S, b :: a :: r, sp, dr, B) = if isC b = true ∨ isC a = true then none else some (S, tN (opr w (num a) (num b)) :: r, sp, dr, B) := rfl
theorem mE5_c {sp dr B : Nat} {S : List (Tr × Tr × Bool)} {b c env v : Tr} {r : List Tr} : mE5 b c env (S, v :: r, sp, dr, B) = if isC v = true then none else some (psh (if num v = 0 then c else b) env false (S, r, sp, dr, B)) := rfl
theorem isC_N (n : Int64) : ¬ isC (tN n) = true := fun y => by cases y
theorem mk_mch {h h' : re_H} {E : Ev} {m s rr cl : Nat} {w0 ps ss es ns fs : List Value} {kn : Value} {ff : Nat} {S : List (Tr × Tr × Bool)} {V : List Tr} {sp dr B : Nat} (hh : hld h E) (rk : re_R kn) (o : m6 h m w0 ps ss es ns fs h) (o' : m6 h m (mW s rr m (i32 S.length) (i32 V.length) (i32 cl) (i32 sp) (i32 dr) kn ff) ps ss es ns fs h') (l : ps.length = 604 ∧ ss.length = 604 ∧ es.length = 604 ∧ ns.length = 301 ∧ fs.length = 301) (zs : sk h E ps ss es S) (zv : vk h E ns fs V) : mch h' E m s rr cl (S, V, sp, dr, B) kn ff ∧ mw m h h' :=
  have a := m6_mw o o'
  ⟨⟨mw_hld hh a, rk, _, _, _, _, _, m6_rf o', l, sk_fr (mw_xk a) (fun _ _ y => mw_nd hh a y) (fun _ _ => ⟨rfl, rfl, rfl⟩) zs, vk_fr (fun _ _ _ y => mw_vl hh a y) (fun _ _ => ⟨rfl, rfl⟩) zv⟩, a⟩
section ME
variable {SC : List Value} {d q : Nat} {h : re_H} {Q : Nat → Value → re_H → Prop} {m s rr cl : Nat} {S : List (Tr × Tr × Bool)} {V : List Tr} {sp dr B : Nat} {kn : Value} {ff : Nat} {E : Ev}
theorem c454 {i2 : Nat} {sd : Int32} (z : mch h E m s rr cl (S, V, sp, dr, B) kn ff) (u1 : re_hg h rr = some (4, [.ref i2, .int sd])) (hl : V.length ≤ 300) (K0 : mE3 sd cl (S, V, sp, dr, B) = none → ∀ h', mcz h' m s rr ff → mw m h h' → Q 1 (.int 0) h') (K : ∀ M' h', mE3 sd cl (S, V, sp, dr, B) = some M' → mch h' E m s rr cl M' kn ff → mw m h h' → Q 1 (.int (i32 1)) h') : wp SC 454 (d + 1) q 0 [(0, .ref m)] [] h Q := by
  have zz := mch_z z
  obtain ⟨hh, rk, ps, ss, es, ns, fs, o, l, zs, zv⟩ := z
  cases V with
  | nil => exact B454_0 ⟨_, o.2.1, rfl⟩ (fun _ => B454_38 (K0 rfl h zz mw_rf)) (fun g => absurd ((i3_lt (a := 0) (b := 1) (by omega) (by omega)).mpr (by omega)) g)
  | cons v r =>
    obtain ⟨⟨nu, f, n1, n2, n3, n4⟩, zv⟩ := zv
    have hl : r.length + 1 ≤ 300 := hl
    have eq1 : i32 (r.length + 1) - i32 1 = i32 r.length := i3_sub (by omega)
    refine B454_0 ⟨_, o.2.1, rfl⟩ (fun g => absurd ((i3_lt (a := r.length + 1) (b := 1) (by omega) (by omega)).mp g) (by omega)) (fun _ => ?_)
    refine B454_8 ⟨_, o.2.1, rfl⟩ ⟨_, o.2.1, rfl⟩ (vl_R n3) ⟨_, r.length, o.2.2.2.2.2.2.1, eq1, by omega, n2⟩ (fun g => ?_) (fun b hb => ?_)
    rotate_left
    · subst hb
      exact B454_38 (K0 (if_pos (Or.inl (vl_ref n3))) h zz mw_rf)
    subst g
    have hv := vl_null n3
    subst hv
    refine B454_22 ⟨_, o.2.1, rfl⟩ ⟨_, o.2.1, rfl⟩ ⟨_, r.length, o.2.2.2.2.2.1, eq1, by omega, n1⟩ (fun g => ?_) (fun g => B454_38 (K0 (if_pos (Or.inr g)) h zz mw_rf))
    refine B454_40 ⟨_, o.2.1, rfl⟩ o.2.1 (Nat.lt_of_sub_eq_succ rfl) ?_
    rw [show i32 (tN nu :: r).length - i32 1 = i32 r.length from eq1]
    have o1 := m6_0 o 8 (.int (i32 r.length))
    refine B454_50 ⟨_, o1.2.1, rfl⟩ o1.2.1 (Nat.lt_of_sub_eq_succ rfl) ?_
    rw [i3_add]
    have o2 := m6_0 o1 11 (.int (i32 (dr + 1)))
    refine B454_60 ⟨_, o2.2.1, rfl⟩ ⟨_, o2.2.1, rfl⟩ ⟨_, r.length, o2.2.2.2.2.2.1, rfl, by omega, n1⟩ ?_
    obtain ⟨z2, a⟩ := mk_mch (S := S) (V := r) (sp := sp) (dr := dr + 1) (B := B) hh rk o o2 l zs zv
    refine B454_75 ⟨_, o2.2.1, rfl⟩ ⟨_, a.2.2 rr 4 _ u1 (by omega) (by omega), rfl⟩ ⟨_, o2.2.1, rfl⟩ ⟨_, o2.2.1, rfl⟩ (fun y => absurd (dr2_pos g) y) (fun y => ?_)
    refine B454_116 (fun y' => ?_) o2.2.1 rfl (c455 (v := tN (drn sd cl (dr + 1) nu)) z2 (Or.inl ⟨rfl, rfl⟩) rfl (by show r.length ≤ 300; omega) (fun h' z' a' => ret1 (B454_125 (fun y => absurd y (by decide)) (fun _ => B454_128 (B454_133 (Or.inr rfl) (K _ h' (if_neg (fun y => y.elim (fun y1 => by cases y1) g)) z' (mw_tr a a')))))))
    rw [y'] at y
    exact absurd y (by decide)
theorem c456 {w : Nat} (hw : w < 16) (z : mch h E m s rr cl (S, V, sp, dr, B) kn ff) (hl : V.length ≤ 300) (K0 : mE4 w (S, V, sp, dr, B) = none → ∀ h', mcz h' m s rr ff → mw m h h' → Q 1 (.int 0) h') (K : ∀ M' h', mE4 w (S, V, sp, dr, B) = some M' → mch h' E m s rr cl M' kn ff → mw m h h' → Q 1 (.int (i32 1)) h') : wp SC 456 (d + 1) q 0 [(0, .ref m), (1, .int (i32 w))] [] h Q := by
  have zz := mch_z z
  obtain ⟨hh, rk, ps, ss, es, ns, fs, o, l, zs, zv⟩ := z
  match V, zv, hl, o, K0, K with
  | [], zv, hl, o, K0, K => exact B456_0 ⟨_, o.2.1, rfl⟩ (fun _ => B456_36 (K0 rfl h zz mw_rf)) (fun g => absurd ((i3_lt (a := 0) (b := 2) (by omega) (by omega)).mpr (by omega)) g)
  | [b], zv, hl, o, K0, K => exact B456_0 ⟨_, o.2.1, rfl⟩ (fun _ => B456_36 (K0 rfl h zz mw_rf)) (fun g => absurd ((i3_lt (a := 1) (b := 2) (by omega) (by omega)).mpr (by omega)) g)
  | b :: a :: r, zv, hl, o, K0, K =>
    obtain ⟨⟨nb, fb, m1, m2, m3, m4⟩, ⟨na, fa, n1, n2, n3, n4⟩, zv⟩ := zv
    have hl : r.length + 1 + 1 ≤ 300 := hl
    have eq1 : i32 (r.length + 1 + 1) - i32 1 = i32 (r.length + 1) := i3_sub (by omega)
    have eq2 : i32 (r.length + 1 + 1) - i32 2 = i32 r.length := i3_sub (by omega)
    refine B456_0 ⟨_, o.2.1, rfl⟩ (fun g => absurd ((i3_lt (a := r.length + 1 + 1) (b := 2) (by omega) (by omega)).mp g) (by omega)) (fun _ => ?_)
    refine B456_8 ⟨_, o.2.1, rfl⟩ ⟨_, o.2.1, rfl⟩ (vl_R m3) ⟨_, r.length + 1, o.2.2.2.2.2.2.1, eq1, by omega, m2⟩ (fun g => ?_) (fun x hb => ?_)
    rotate_left
    · subst hb
      exact B456_36 (K0 (if_pos (Or.inl (vl_ref m3))) h zz mw_rf)
    subst g
    refine B456_22 ⟨_, o.2.1, rfl⟩ ⟨_, o.2.1, rfl⟩ (vl_R n3) ⟨_, r.length, o.2.2.2.2.2.2.1, eq2, by omega, n2⟩ (fun g => ?_) (fun x hb => ?_)
    rotate_left
    · subst hb
      exact B456_36 (K0 (if_pos (Or.inr (vl_ref n3))) h zz mw_rf)
    subst g
    have hb := vl_null m3
    subst hb
    have ha := vl_null n3
    subst ha
    have mr : mE4 w (S, tN nb :: tN na :: r, sp, dr, B) = some (S, tN (opr w na nb) :: r, sp, dr, B) := by
      rw [mE4_c, if_neg (fun y => y.elim (isC_N _) (isC_N _))]
      rfl
    refine B456_38 ⟨_, o.2.1, rfl⟩ o.2.1 (Nat.lt_of_sub_eq_succ rfl) ?_
    rw [show i32 (tN nb :: tN na :: r).length - i32 2 = i32 r.length from eq2]
    have o1 := m6_0 o 8 (.int (i32 r.length))
    obtain ⟨z2, c⟩ := mk_mch (S := S) (V := r) (sp := sp) (dr := dr) (B := B) hh rk o o1 l zs zv
    have fin : ∀ {Q'} (x : Int64), x = opr w na nb → (∀ h', Q 1 (.int (i32 1)) h' → Q' 1 (.int (i32 1)) h') → ∀ {d' q'}, wp SC 455 d' q' 0 [(0, .ref m), (1, .long x), (3, .null)] [] (re_hw h m (7, (mW s rr m (i32 S.length) (i32 (tN nb :: tN na :: r).length) (i32 cl) (i32 sp) (i32 dr) kn ff).set 8 (.int (i32 r.length)))) Q' := by
      intro Q' x hx kq d' q'
      exact c455 (v := tN (opr w na nb)) z2 (Or.inl ⟨rfl, by rw [hx]⟩) rfl (by show r.length ≤ 300; omega) (fun h' z' a' => kq h' (K _ h' mr z' (mw_tr c a')))
    have r1 : nb_ar (re_hw h m (7, (mW s rr m (i32 S.length) (i32 (tN nb :: tN na :: r).length) (i32 cl) (i32 sp) (i32 dr) kn ff).set 8 (.int (i32 r.length)))) (m + 4) 101 (i32 r.length) (.long na) := ⟨_, r.length, o1.2.2.2.2.2.1, rfl, by omega, n1⟩
    have r2 : nb_ar (re_hw h m (7, (mW s rr m (i32 S.length) (i32 (tN nb :: tN na :: r).length) (i32 cl) (i32 sp) (i32 dr) kn ff).set 8 (.int (i32 r.length)))) (m + 4) 101 (i32 r.length + i32 1) (.long nb) := ⟨_, r.length + 1, o1.2.2.2.2.2.1, i3_add _ _, by omega, m1⟩
    by_cases w0 : w = 0
    · subst w0
      exact B456_48_0 ⟨_, o1.2.1, rfl⟩ ⟨_, o1.2.1, rfl⟩ r1 ⟨_, o1.2.1, rfl⟩ ⟨_, o1.2.1, rfl⟩ r2 (B456_100 o1.2.1 rfl (fin _ rfl (fun h' k => ret1 (B456_109 (Or.inr rfl) k))))
    by_cases w1 : w = 1
    · subst w1
      exact B456_48_1 ⟨_, o1.2.1, rfl⟩ ⟨_, o1.2.1, rfl⟩ r1 ⟨_, o1.2.1, rfl⟩ ⟨_, o1.2.1, rfl⟩ r2 (B456_110 o1.2.1 rfl (fin _ rfl (fun h' k => ret1 (B456_119 (Or.inr rfl) k))))
    by_cases w2 : w = 2
    · subst w2
      exact B456_48_2 ⟨_, o1.2.1, rfl⟩ ⟨_, o1.2.1, rfl⟩ r1 ⟨_, o1.2.1, rfl⟩ ⟨_, o1.2.1, rfl⟩ r2 (B456_120 o1.2.1 rfl (fin _ rfl (fun h' k => ret1 (B456_129 (Or.inr rfl) k))))
    have ow : opr w na nb = if na < nb then 1 else 0 := by
      unfold opr
      rw [if_neg w0, if_neg w1, if_neg w2]
    refine B456_48 ⟨_, o1.2.1, rfl⟩ ⟨_, o1.2.1, rfl⟩ r1 ⟨_, o1.2.1, rfl⟩ ⟨_, o1.2.1, rfl⟩ r2 (Or.inr (by rw [i3_toInt (by omega)]; omega)) (B456_130 (fun g => ?_) (fun g => ?_))
    · exact B456_142 (B456_143 o1.2.1 rfl (fin _ (by rw [ow, if_neg g]) (fun h' k => ret1 (B456_147 (Or.inr rfl) k))))
    · exact B456_138 (B456_143 o1.2.1 rfl (fin _ (by rw [ow, if_pos g]) (fun h' k => ret1 (B456_147 (Or.inr rfl) k))))
theorem c457 {sr w : Nat} {n : Int64} {a b c env : Tr} {v1 v2 : Value} (z : mch h E m s rr cl (S, V, sp, dr, B) kn ff) (he : ex h (tE sr w n a b c) v1) (hi : inps (tE sr w n a b c) < 16) (hn : nd h E env v2) (hw : wT env = true) (hs : isS env = true) (hS : S.length < 604) (hl : V.length ≤ 300) (K0 : mE5 b c env (S, V, sp, dr, B) = none → ∀ h', mcz h' m s rr ff → mw m h h' → Q 1 (.int 0) h') (K : ∀ M' h', mE5 b c env (S, V, sp, dr, B) = some M' → mch h' E m s rr cl M' kn ff → mw m h h' → Q 1 (.int (i32 1)) h') : wp SC 457 (d + 1) q 0 [(0, .ref m), (1, v1), (2, v2)] [] h Q := by
  have zz := mch_z z
  obtain ⟨hh, rk, ps, ss, es, ns, fs, o, l, zs, zv⟩ := z
  have r2 := nd_R hn
  obtain ⟨-, x, va, vb, vc, rfl, g1, g2, g3, g4⟩ := ex_E.mp he
  have ii := inps_le hi
  cases V with
  | nil => exact B457_0 (Or.inr ⟨x, rfl⟩) r2 ⟨_, o.2.1, rfl⟩ (fun _ => B457_22 (K0 rfl h zz mw_rf)) (fun g => absurd ((i3_lt (a := 0) (b := 1) (by omega) (by omega)).mpr (by omega)) g)
  | cons v r =>
    obtain ⟨⟨nu, f, n1, n2, n3, n4⟩, zv⟩ := zv
    have hl : r.length + 1 ≤ 300 := hl
    have eq1 : i32 (r.length + 1) - i32 1 = i32 r.length := i3_sub (by omega)
    refine B457_0 (Or.inr ⟨x, rfl⟩) r2 ⟨_, o.2.1, rfl⟩ (fun g => absurd ((i3_lt (a := r.length + 1) (b := 1) (by omega) (by omega)).mp g) (by omega)) (fun _ => ?_)
    refine B457_8 (Or.inr ⟨x, rfl⟩) r2 ⟨_, o.2.1, rfl⟩ ⟨_, o.2.1, rfl⟩ (vl_R n3) ⟨_, r.length, o.2.2.2.2.2.2.1, eq1, by omega, n2⟩ (fun g => ?_) (fun y hb => ?_)
    rotate_left
    · subst hb
      exact B457_22 (K0 (if_pos (vl_ref n3)) h zz mw_rf)
    subst g
    have hv := vl_null n3
    subst hv
    refine B457_24 (Or.inr ⟨x, rfl⟩) r2 ⟨_, o.2.1, rfl⟩ o.2.1 (Nat.lt_of_sub_eq_succ rfl) ?_
    rw [show i32 (tN nu :: r).length - i32 1 = i32 r.length from eq1]
    have o1 := m6_0 o 8 (.int (i32 r.length))
    obtain ⟨z2, q2⟩ := mk_mch (S := S) (V := r) (sp := sp) (dr := dr) (B := B) hh rk o o1 l zs zv
    have g1' := q2.2.2 x 9 _ g1 (by omega) (by omega)
    have mr : mE5 b c env (S, tN nu :: r, sp, dr, B) = some (psh (if nu = 0 then c else b) env false (S, r, sp, dr, B)) := by
      rw [mE5_c, if_neg (isC_N _)]
      rfl
    refine B457_34 (Or.inr ⟨x, rfl⟩) r2 ⟨_, o1.2.1, rfl⟩ ⟨_, o1.2.1, rfl⟩ ⟨_, r.length, o1.2.2.2.2.2.1, rfl, by omega, n1⟩ (fun g => ?_) (fun g => ?_)
    · refine B457_56 (Or.inr ⟨x, rfl⟩) r2 rfl (ex_R g4) ⟨_, g1', rfl⟩ (B457_60 r2 (ex_R g4) o1.2.1 rfl (c452 (b := false) z2 (ex_xk (mw_xk q2) g4) ii.2.2.1 (mw_nd hh q2 hn) hw hs hS (fun h' z' a' => ret0 (B457_65 (K _ h' ?_ z' (mw_tr q2 a'))))))
      rw [mr, if_pos g]
    · refine B457_49 (Or.inr ⟨x, rfl⟩) r2 rfl (ex_R g3) ⟨_, g1', rfl⟩ (B457_60 r2 (ex_R g3) o1.2.1 rfl (c452 (b := false) z2 (ex_xk (mw_xk q2) g3) ii.2.1 (mw_nd hh q2 hn) hw hs hS (fun h' z' a' => ret0 (B457_65 (K _ h' ?_ z' (mw_tr q2 a'))))))
      rw [mr, if_neg g]
end ME
