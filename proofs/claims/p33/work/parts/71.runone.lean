/-! Sheet: running one cell. -/
def rUp (RR : Nat → Rs) (i : Nat) (R : Rs) : Nat → Rs := fun j => if j = i then R else RR j
theorem rUp_s {RR : Nat → Rs} {i : Nat} {R : Rs} : rUp RR i R i = R := if_pos rfl
theorem rUp_n {RR : Nat → Rs} {i j : Nat} {R : Rs} (h : ¬ j = i) : rUp RR i R j = RR j := if_neg h
theorem rUp_up {RR : Nat → Rs} {i : Nat} {R R' : Rs} : rUp (rUp RR i R) i R' = rUp RR i R' := by
  funext j
  unfold rUp
  split
  · rfl
  · rfl
theorem rUp_id {RR : Nat → Rs} {i : Nat} : rUp RR i (RR i) = RR := by
  funext j
  unfold rUp
  split
  next g => rw [g]
  · rfl
/-- as a run begins; as it fails; as it keeps -/
def rBe (R : Rs) (C : Cd) (I : Nat → Int64) (sd : Int32) : Rs := (0, R.2.1 + 1, [], C, (fun k => if k < 4 then I k else rI R k), sd, rW R)
def rKe (R : Rs) (K : Cd) : Rs := (R.1, R.2.1, K, R.2.2.2)
def rO0 (RR : Nat → Rs) (i : Nat) (C : Cd) (I : Nat → Int64) (sd : Int32) : Nat → Rs := rUp RR i (rBe (RR i) C I sd)
def rFa (RR : Nat → Rs) (i : Nat) (err : Int32) : Nat → Rs := rUp RR i (rup (RR i) err [])
def rKp (RR : Nat → Rs) (i : Nat) (K : Cd) : Nat → Rs := rUp RR i (rKe (RR i) K)
def hd1 : List Tr → Tr
  | [] => .leaf
  | v :: _ => v
/-- the definitions, in order -/
def rnL (I : Nat → Int64) (sd : Int32) (cl rid : Nat) : Cd → Tr → Cd → Nat → Nat → Nat → Option Cd × Nat
  | [], _, K, _, _, B => (some K, B)
  | q :: C, env, K, sp, dr, B =>
    if (mRn I sd cl rid 700 ([(q.2, env, false)], [], sp, dr, B)).1 = true then
      rnL I sd cl rid C (tB q.1 rid (hd1 (mRn I sd cl rid 700 ([(q.2, env, false)], [], sp, dr, B)).2.2.1) env) (K ++ [(q.1, hd1 (mRn I sd cl rid 700 ([(q.2, env, false)], [], sp, dr, B)).2.2.1)]) (mRn I sd cl rid 700 ([(q.2, env, false)], [], sp, dr, B)).2.2.2.1 (mRn I sd cl rid 700 ([(q.2, env, false)], [], sp, dr, B)).2.2.2.2.1 (mRn I sd cl rid 700 ([(q.2, env, false)], [], sp, dr, B)).2.2.2.2.2
    else (none, (mRn I sd cl rid 700 ([(q.2, env, false)], [], sp, dr, B)).2.2.2.2.2)
def rEd (RR : Nat → Rs) (i : Nat) (o : Option Cd) : Nat → Rs := match o with
  | some K => rKp RR i K
  | none => rFa RR i 4
/-- what a sheet's runs change: the results, the functions' count, the runs' count -/
abbrev Yr : Type := (Nat → Rs) × Nat × Nat
noncomputable def rOz (V : Vr) (I : Nat → Int64) (sd : Int32) (st0 c : Nat) (Y : Yr) : Yt := rdA V st0 c Y.2.2 16 (rO0 Y.1 (st0 + c) (V c).2 I sd, .leaf, true)
noncomputable def rOl (V : Vr) (I : Nat → Int64) (sd : Int32) (st0 c : Nat) (Y : Yr) : Option Cd × Nat := rnL I sd c Y.2.2 (V c).2 (rOz V I sd st0 c Y).2.1 [] 0 0 Y.2.1
noncomputable def rOn (V : Vr) (I : Nat → Int64) (sd : Int32) (st0 c : Nat) (Y : Yr) : Yr :=
  if wr V c = 0 then
    (if (rOz V I sd st0 c Y).2.2 = true then (rEd (rOz V I sd st0 c Y).1 (st0 + c) (rOl V I sd st0 c Y).1, (rOl V I sd st0 c Y).2, Y.2.2 + 1)
    else (rFa (rOz V I sd st0 c Y).1 (st0 + c) 5, Y.2.1, Y.2.2 + 1))
  else (rFa Y.1 (st0 + c) (i32 (wr V c)), Y.2.1, Y.2.2 + 1)
def rOr (V : Vr) (c : Nat) : Nat := if wr V c = 0 then 1 else 0
/-- exprs are well made -/
def wE : Tr → Bool
  | .leaf => true
  | .inner k l _ a (.inner k2 l2 _ b c) => k == 0 && k2 == 1 && l2 == (0, 0, 0) && decide (l.1 < 9) && decide (l.2.1 < 16) && wE a && wE b && wE c
  | .inner _ _ _ _ .leaf => false
/-- the model is well made -/
def mwf (V : Vr) (RR : Nat → Rs) : Prop := (∀ c, c < 12 → ∀ q, q ∈ (V c).2 → inps q.2 < 16 ∧ wE q.2 = true) ∧ ∀ i n v, (n, v) ∈ rK (RR i) → wT v = true
theorem mwf_up {V : Vr} {RR : Nat → Rs} {i : Nat} {R : Rs} (z : mwf V RR) (h : ∀ n v, (n, v) ∈ rK R → wT v = true) : mwf V (rUp RR i R) := ⟨z.1, fun j n v y => by
  rcases Nat.decEq j i with hne | rfl
  · rw [rUp_n hne] at y; exact z.2 j n v y
  · rw [rUp_s] at y; exact h n v y⟩
theorem lkp_mem {n : Nat} {v : Tr} : ∀ {C : Cd}, lkp n C = some v → (n, v) ∈ C
  | [], h => by cases h
  | q :: r, h => by
    unfold lkp at h
    split at h
    next g => cases h; rw [← g]; exact List.mem_cons_self ..
    next => exact List.mem_cons_of_mem _ (lkp_mem h)
/-- the notebook between runs: what is abstract of it, its nodes -/
def nbx (h : re_H) (b : Nat) (V : Vr) (I : Nat → Int64) (sd : Int32) (Y : Yr) (N : List Nat) (ff W : Nat) : Prop := ∃ (E : Ev) (F : List Nat) (ho la ff' : Nat), bk h b E V I sd Y.1 N F ho la ff' ∧ ff' ≤ ff ∧ E.2.1 = Y.2.1 ∧ cok E N Y.2.2 ∧ la ≤ W ∧ ho ≤ la + 820 ∧ N.length ≤ 2 * W + 820
section RO
variable {h h' : re_H} {E : Ev} {b : Nat} {V : Vr} {RR : Nat → Rs} {I : Nat → Int64} {sd : Int32} {N F : List Nat} {ho la ff : Nat}
theorem bk_ru {i : Nat} {R' : Rs} (hi : i < 24) (z : bk h b E V I sd RR N F ho la ff) (mm : mo (inR (b + 50 + 1 + 10 * i)) 0 h h') (zr : rs h' E (b + 50 + 1 + 10 * i) R') : bk h' b E V I sd (rUp RR i R') N F ho la ff := bk_rs hi z mm zr
theorem bk_fl (z : bk h b E V I sd RR N F ho la ff) : bk h b (eFl E N F) V I sd RR N F ho la ff := by
  obtain ⟨z1, z2, z3, z4, z5, z6, z7⟩ := z
  exact ⟨z1, rall_fr (fun _ _ => rfl) (fun _ _ => rfl) xk_rf (eFl_le z3.2) z2, ⟨z3.1, fun _ y => y⟩, z4, z5, z6, z7⟩
end RO
theorem rdA_i {V : Vr} {st0 c rid : Nat} {Y : Yt} : ∀ n, (∀ i, rK ((rdA V st0 c rid n Y).1 i) = rK (Y.1 i)) ∧ (∀ i, ((rdA V st0 c rid n Y).1 i).1 = (Y.1 i).1) ∧ ∀ i, ¬ i = st0 + c → (rdA V st0 c rid n Y).1 i = Y.1 i
  | 0 => ⟨fun _ => rfl, fun _ => rfl, fun _ _ => rfl⟩
  | n + 1 => by
    obtain ⟨a1, a2, a3⟩ := rdA_i (V := V) (st0 := st0) (c := c) (rid := rid) (Y := Y) n
    have e : rdA V st0 c rid (n + 1) Y = rdN V st0 c rid n (rdA V st0 c rid n Y) := rfl
    rw [e]
    obtain ⟨Z, hZ⟩ : ∃ Z, Z = rdA V st0 c rid n Y := ⟨_, rfl⟩
    rw [← hZ] at a1 a2 a3 ⊢
    have key : ∀ v, (∀ i, rK (sen Z.1 (st0 + c) n v i) = rK (Y.1 i)) ∧ (∀ i, (sen Z.1 (st0 + c) n v i).1 = (Y.1 i).1) ∧ ∀ i, ¬ i = st0 + c → sen Z.1 (st0 + c) n v i = Y.1 i := fun v => by
      refine ⟨fun i => sen_K.trans (a1 i), fun i => ?_, fun i hi => ?_⟩
      · rw [← a2 i]
        unfold sen
        split
        next g => rw [g]
        · rfl
      · unfold sen
        rw [if_neg hi]
        exact a3 i hi
    by_cases hb : (rds (V c).2).testBit n = true
    · cases hv : vin V Z.1 st0 n with
      | none => rw [rdN_0 hb hv]; exact key none
      | some v => rw [rdN_1 hb hv]; exact key (some v)
    · unfold rdN
      rw [if_neg hb]
      exact ⟨a1, a2, a3⟩
section RP
variable {SC : List Value} {d q : Nat} {h : re_H} {Q : Nat → Value → re_H → Prop} {sh st0 b : Nat} {V : Vr} {I : Nat → Int64} {sd : Int32} {Y : Yr} {N : List Nat} {ff W : Nat}
theorem c519 {c : Nat} (hc : c < 12) (ys : bsh b sh st0) (z : nbx h b V I sd Y N ff W) (hm : mwf V Y.1) (hT : 0 < Y.2.2) (hL : ∃ L : List Nat, 320 * L.length ≤ W ∧ ¬ 0 ∈ L ∧ ∀ r, lrd Y.1 r → r ∈ L) (hff : ff + 3000 < 2 ^ 62) (hW : W ≤ 400000) (K : ∀ h' N', nbx h' b V I sd (rOn V I sd st0 c Y) N' (ff + 3000) W → mwf V (rOn V I sd st0 c Y).1 → bru b h N h' N' → Q 1 (.int (i32 (rOr V c))) h') : wp SC 519 (d + 5) q 0 [(0, .ref sh), (1, .int (i32 c))] [] h Q := by
  obtain ⟨RR, B, T⟩ := Y
  obtain ⟨E, F, ho, la, f0, z, hf0, hB, hcok, hla, hho, hN⟩ := z
  dsimp only at *
  obtain ⟨zs, h0⟩ := bsh_c ys z
  have zl := z.1.2.1
  have zr := z.2.1.2 (st0 + c) (by omega)
  have a6 := lk_at zl (j := 6) (i := c) (by omega) (by omega) (by show c < 12; exact hc)
  have f6 : lkF V 6 c = i32 (wr V c) := rfl
  rw [f6] at a6
  have hw := wr_le V c
  have hh := sth_hld z.2.2.1
  refine B519_0 zs rfl (c515 zs z.2.1 (by omega) (ret3 (B519_5 ⟨_, zs, rfl⟩ ⟨_, lk_c zl, rfl⟩ a6 (fun g => ?_) (fun g => ?_))))
  rotate_left
  · have hwr : ¬ wr V c = 0 := fun y => g ((i3_zero (by omega)).mpr y)
    refine B519_18 ⟨_, zs, rfl⟩ ⟨_, lk_c zl, rfl⟩ a6 (rs_0 zr) rfl (c326 hh zr (fun h' zr' mm hk => ret0 (B519_31 ?_)))
    have er : rOr V c = 0 := if_neg hwr
    have eo : rOn V I sd st0 c (RR, B, T) = (rFa RR (st0 + c) (i32 (wr V c)), B, T + 1) := if_neg hwr
    refine er ▸ K h' N ?_ ?_ (bru_brn (brn_rs (i := st0 + c) (E := E) (rid := 0) (by omega) mm))
    all_goals rw [eo]
    rotate_left
    · exact mwf_up hm (fun n v y => by cases y)
    exact ⟨E, F, ho, la, f0, bk_ru (by omega) z mm zr', by omega, hB, ⟨fun x hx => Nat.lt_succ_of_lt (hcok.1 x hx), hcok.2⟩, hla, hho, hN⟩
  have hwr : wr V c = 0 := (i3_zero (by omega)).mp g
  have er : rOr V c = 1 := if_pos hwr
  rw [er] at K
  have a1 := z.1.1
  obtain ⟨ns, es, ccr, cnt', cet, ccc⟩ := id (a1.2.2.2 c hc)
  have hcar : nb_ar h (b + 2 + 2) 104 (i32 c) (.ref (b + 2 + 3 + 3 * c)) := ⟨_, c, a1.2.2.1, rfl, by omega, lst_get (fun i => .ref (b + 2 + 3 + 3 * i)) hc⟩
  obtain ⟨_, _, _, _, _, _, _, _, _, _, _, om, -⟩ := id z.2.2.2.2.1
  refine B519_33 ⟨_, zs, rfl⟩ ⟨_, a1.1, rfl⟩ hcar ⟨_, zs, rfl⟩ ⟨_, om.2.1, rfl⟩ (rs_0 zr) rfl ?_
  refine c328 hh zr (a1.2.2.2 c hc) (Or.inl (by omega)) z.1.2.2.1 z.1.2.2.2.1 (Or.inl (by omega)) (fun h1 zr1 mm1 hk1 => ret0 ?_)
  have z1 : bk h1 b E V I sd (rO0 RR (st0 + c) (V c).2 I sd) N F ho la f0 := bk_ru (by omega) z mm1 zr1
  have u1 : bru b h N h1 N := bru_brn (brn_rs (i := st0 + c) (E := E) (rid := 0) (by omega) mm1)
  obtain ⟨zs1, -⟩ := bsh_c ys z1
  obtain ⟨_, _, _, _, _, _, _, _, _, _, _, om1, -⟩ := id z1.2.2.2.2.1
  have hlr : ∀ r, lrd (rO0 RR (st0 + c) (V c).2 I sd) r → lrd RR r := fun r y => by
    obtain ⟨i, n, v, hi, hm', hr⟩ := y
    refine ⟨i, n, v, hi, ?_, hr⟩
    rcases Nat.decEq i (st0 + c) with hne | rfl
    · unfold rO0 at hm'; rw [rUp_n hne] at hm'; exact hm'
    · unfold rO0 at hm'; rw [rUp_s] at hm'; cases hm'
  obtain ⟨L, hL1, hL2, hL3⟩ := hL
  refine B519_55 ⟨_, zs1, rfl⟩ om1.2.1 rfl (c449b z1 (by omega) (fun h2 E2 F2 ho2 la2 z2 zm2 l2 fr2 x2 hl2 alt => ret0 ?_))
  have u2 : bru b h N h2 N := bru_tr u1 ⟨Nat.le_of_eq l2.symm, fun a _ ha hn => fr2 a ha hn, x2, by omega, fun _ y => y, fun _ y => Or.inl y⟩
  have q2 : E2.2.1 = B ∧ cok E2 N T ∧ la2 ≤ W := by
    rcases alt with ⟨rfl, rfl, rfl, rfl⟩ | ⟨U, rfl, -, rfl, hU⟩
    · exact ⟨hB, hcok, hla⟩
    · refine ⟨hB, cok_ct (fun x hx => (lvx_rd (hU x hx)).1) hcok, Nat.le_trans (cn_L hcok (L := L) hL2 (fun x _ hp => ?_)) hL1⟩
      have := lvx_rd (hU x (of_decide_eq_true hp))
      exact ⟨this.1, hL3 _ (hlr _ this.2)⟩
  have z3 := bk_fl z2
  have c3 := cok_fl (F := F2) hT q2.2.1
  have t3 : ∀ x, (eFl E2 N F2).2.2.1 x ↔ x ∈ N ∧ ¬ x ∈ F2 := fun x => Iff.rfl
  have b3 : (eFl E2 N F2).2.1 = B := q2.1
  obtain ⟨E3, hE3⟩ : ∃ E3, E3 = eFl E2 N F2 := ⟨_, rfl⟩
  rw [← hE3] at z3 c3 t3 b3
  have hlw := q2.2.2
  obtain ⟨zs2, -⟩ := bsh_c ys z3
  -- the end, whatever was found
  have fin : ∀ (h' : re_H) (E' : Ev) (RR' : Nat → Rs) (B' : Nat) (N' F' : List Nat) (j f' : Nat) (x : Int32), rOn V I sd st0 c (RR, B, T) = (RR', B', T + 1) → x = i32 1 → mwf V RR' → bk h' b E' V I sd RR' N' F' (ho2 + j) la2 f' → f' ≤ ff + 3000 → E'.2.1 = B' → brn b T h2 E3 N h' E' N' → j ≤ 320 → N'.length ≤ max N.length (ho2 + j + la2) → Q 1 (.int x) h' := by
    intro h' E' RR' B' N' F' j f' x eo hx hm' z' hf' hB' br hj hn'
    subst hx
    refine K h' N' ?_ (by rw [eo]; exact hm') (bru_tr u2 (bru_brn br))
    rw [eo]
    exact ⟨E', F', ho2 + j, la2, f', z', hf', hB', cok_run z3.2.2.1.1 z'.2.2.1 t3 c3 br.2.2.2.1 br.2.2.2.2.2.1 br.2.2.2.2.2.2.2 hj, hlw, by omega, by omega⟩
  refine B519_63 zs2 rfl (c520 (rid := T) (RR := rO0 RR (st0 + c) (V c).2 I sd) (env := .leaf) hc ys z3 zm2 rfl (fun h4 E4 N4 F4 j4 kn4 z4 zm4 nd4 br4 hj4 nl4 hb4 => ret1 ?_))
  have eZ : rdA V st0 c T 16 (rO0 RR (st0 + c) (V c).2 I sd, .leaf, true) = rOz V I sd st0 c (RR, B, T) := rfl
  have hWT : ∀ i k v, lkp k (rK (rO0 RR (st0 + c) (V c).2 I sd i)) = some v → wT v = true := fun i k v hv => by
    have := lkp_mem hv
    rcases Nat.decEq i (st0 + c) with hne | rfl
    · unfold rO0 at this; rw [rUp_n hne] at this; exact hm.2 i k v this
    · unfold rO0 at this; rw [rUp_s] at this; cases this
  have wz := rdA_w (V := V) (st0 := st0) (c := c) (rid := T) (env := .leaf) hWT rfl rfl 16
  have iz := rdA_i (V := V) (st0 := st0) (c := c) (rid := T) (Y := (rO0 RR (st0 + c) (V c).2 I sd, .leaf, true)) 16
  rw [eZ] at z4 nd4 wz iz ⊢
  obtain ⟨Z, hZ⟩ : ∃ Z, Z = rOz V I sd st0 c (RR, B, T) := ⟨_, rfl⟩
  have eo : rOn V I sd st0 c (RR, B, T) = if Z.2.2 = true then (rEd Z.1 (st0 + c) (rnL I sd c T (V c).2 Z.2.1 [] 0 0 B).1, (rnL I sd c T (V c).2 Z.2.1 [] 0 0 B).2, T + 1) else (rFa Z.1 (st0 + c) 5, B, T + 1) := by
    rw [hZ]; exact if_pos hwr
  rw [← hZ] at z4 nd4 wz iz ⊢
  have kZ : rK (Z.1 (st0 + c)) = [] := by rw [iz.1]; show rK (rUp _ _ _ _) = _; rw [rUp_s]; rfl
  have hB4 : E4.2.1 = B := hb4.trans b3
  have hmZ : mwf V Z.1 := ⟨hm.1, fun i n v hv => by
    rw [iz.1] at hv
    rcases Nat.decEq i (st0 + c) with hne | rfl
    · have hv : (n, v) ∈ rK (rUp RR (st0 + c) _ i) := hv
      rw [rUp_n hne] at hv
      exact hm.2 i n v hv
    · have hv : (n, v) ∈ rK (rUp RR (st0 + c) (rBe (RR (st0 + c)) (V c).2 I sd) (st0 + c)) := hv
      rw [rUp_s] at hv
      cases hv⟩
  refine B519_69 (fun g9 => ?_) (fun g9 => ?_)
  rotate_left
  · have hz9 : ¬ Z.2.2 = true := fun y => by rw [y] at g9; exact absurd g9 (by decide)
    rw [if_neg hz9] at eo
    have zr4 := z4.2.1.2 (st0 + c) (by omega)
    refine B519_72 (rs_0 zr4) rfl (c326 (sth_hld z4.2.2.1) zr4 (fun h' zr' mm hk => ret0 (B519_77 ?_)))
    exact fin h' E4 _ B N4 F4 j4 f0 _ eo rfl (mwf_up hmZ (fun n v y => by cases y)) (bk_ru (by omega) z4 mm zr') (by omega) hB4 (brn_tr br4 (brn_rs (i := st0 + c) (by omega) mm)) (by omega) nl4
  have hz9 : Z.2.2 = true := by
    cases hz : Z.2.2 with
    | true => rfl
    | false => rw [hz] at g9; exact absurd rfl g9
  rw [if_pos hz9] at eo
  obtain ⟨O, hO⟩ : ∃ O, O = rnL I sd c T (V c).2 Z.2.1 [] 0 0 B := ⟨_, rfl⟩
  rw [← hO] at eo
  have hlen4 : (V c).2.length ≤ 4 := ccc.1
  have loop : ∀ (k n : Nat), n + k = (V c).2.length → ∀ (h5 : re_H) (E5 : Ev) (N5 F5 : List Nat) (j f5 sp dr B5 : Nat) (kn : Value) (env : Tr) (KK : Cd), O = rnL I sd c T ((V c).2.drop n) env KK sp dr B5 → bk h5 b E5 V I sd (rKp Z.1 (st0 + c) KK) N5 F5 (ho2 + j) la2 f5 → mcs h5 (b + 292) (b + 291) (b + 48) c sp dr kn f5 → nd h5 E5 env kn → wT env = true → isS env = true → E5.2.1 = B5 → KK.length = n → f5 ≤ f0 + 700 * n → brn b T h2 E3 N h5 E5 N5 → j ≤ 16 + n + sp → sp ≤ 300 → N5.length ≤ max N.length (ho2 + j + la2) → (∀ n v, (n, v) ∈ KK → wT v = true) → wp SC 519 (d + 5) q 82 [(0, .ref sh), (2, .ref (b + 50 + 1 + 10 * (st0 + c))), (3, .ref (b + 2 + 3 + 3 * c)), (4, .int (i32 n))] [] h5 Q := by
    intro k
    induction k with
    | zero =>
      intro n hn h5 E5 N5 F5 j f5 sp dr B5 kn env KK hO5 z5 zm5 nd5 w5 s5 hB5 hK5 hf5 br5 hj5 hsp nl5 hwk
      cases (show n = (V c).2.length by omega)
      obtain ⟨ns5, es5, cr5, -⟩ := z5.1.1.2.2.2 c hc
      rw [dropn (Nat.le_refl _)] at hO5
      refine B519_82 ⟨_, cr5.1, rfl⟩ (fun _ => B519_174 ?_) (fun g => absurd ((i3_lt (by omega) (by omega)).mp g) (by omega))
      rw [hO5] at eo
      exact fin h5 E5 _ B5 N5 F5 j f5 _ eo rfl (mwf_up hmZ hwk) z5 (by omega) hB5 br5 (by omega) nl5
    | succ k ih =>
      intro n hn h5 E5 N5 F5 j f5 sp dr B5 kn env KK hO5 z5 zm5 nd5 w5 s5 hB5 hK5 hf5 br5 hj5 hsp nl5 hwk
      obtain ⟨⟨nm, e⟩, hq⟩ := getl (C := (V c).2) (i := n) (by omega)
      rw [dropc hq] at hO5
      obtain ⟨M, hM⟩ : ∃ M, M = mRn I sd c T 700 ([(e, env, false)], [], sp, dr, B5) := ⟨_, rfl⟩
      have hO6 : O = if M.1 = true then rnL I sd c T ((V c).2.drop (n + 1)) (tB nm T (hd1 M.2.2.1) env) (KK ++ [(nm, hd1 M.2.2.1)]) M.2.2.2.1 M.2.2.2.2.1 M.2.2.2.2.2 else (none, M.2.2.2.2.2) := by rw [hO5, hM]; rfl
      have code : ∀ h9, vr h9 (b + 2) V → (∃ w, re_hg h9 (b + 2 + 3 + 3 * c) = some (2, w) ∧ w[0]? = some (.int (i32 (V c).2.length))) ∧ nb_fd h9 (b + 2 + 3 + 3 * c) 2 1 (.ref (b + 2 + 3 + 3 * c + 1)) ∧ nb_fd h9 (b + 2 + 3 + 3 * c) 2 2 (.ref (b + 2 + 3 + 3 * c + 2)) ∧ nb_ar h9 (b + 2 + 3 + 3 * c + 1) 100 (i32 n) (.int (i32 nm)) ∧ nm < 16 ∧ ∃ ve, nb_ar h9 (b + 2 + 3 + 3 * c + 2) 103 (i32 n) ve ∧ ex h9 e ve := fun h9 y9 => by
        obtain ⟨ns9, es9, cr9, -, -, cc9⟩ := y9.2.2.2 c hc
        obtain ⟨e1, e2, b9, e3, e4, -⟩ := cc9.2 n nm e hq
        exact ⟨⟨_, cr9.1, rfl⟩, ⟨_, cr9.1, rfl⟩, ⟨_, cr9.1, rfl⟩, ⟨_, n, cr9.2.1, rfl, by omega, e1⟩, e2, _, ⟨_, n, cr9.2.2.1, rfl, by omega, e3⟩, e4⟩
      obtain ⟨c1, c2, c3', c4, c5, ve, c6, c7⟩ := code h5 z5.1.1
      obtain ⟨zs5, -⟩ := bsh_c ys z5
      obtain ⟨_, _, _, _, _, _, _, _, om5, -⟩ := id zm5
      have hie := (hm.1 c hc (nm, e) (List.mem_of_getElem? hq)).1
      refine B519_82 c1 (fun g => absurd ((i3_lt (by omega) (by omega)).mpr (by omega)) g) (fun _ => ?_)
      refine B519_91 ⟨_, zs5, rfl⟩ c3' (ex_R c7) c6 om5.2.1 rfl (c451 (rid := T) (B := B5) zm5 z5.2.2.1 z5.2.2.2.1 hB5 (by omega) z5.1.2.2.1 z5.1.2.2.2.1 (by unfold inM; omega) c7 hie nd5 w5 s5 hsp (fun h6 E6 N6 F6 j6 k6 m1 st6 f6 b6 r6 zm6 nl6 hj6 hk6 => ret1 (B519_105 (fun g => absurd rfl g) (fun _ => ?_))) (fun h6 j6 k6 m1 zp6 hj6 hs6 hv6 hst6 hk6 => ret1 (B519_105 (fun _ => ?_) (fun g => absurd g (by decide)))))
      · rw [← hM] at m1 b6
        rw [if_neg (by rw [m1]; decide)] at hO6
        have st6' : sth h6 E6 (b + 291) (b + 50) N6 F6 (ho2 + (j + j6)) la2 := by rw [← Nat.add_assoc]; exact st6
        have z6 := bk_rn z5 r6 st6' f6 zm6
        have zr6 := z6.2.1.2 (st0 + c) (by omega)
        refine B519_108 (rs_0 zr6) rfl (c326 (sth_hld st6) zr6 (fun h' zr' mm hk => ret0 (B519_113 ?_)))
        have z7 := bk_ru (by omega) z6 mm zr'
        rw [hO6] at eo
        refine fin h' E6 _ _ N6 F6 (j + j6) (f5 + k6) _ eo rfl (mwf_up hmZ (fun n v y => by cases y)) ?_ (by omega) b6 (brn_tr br5 (brn_tr (brn_rn r6) (brn_rs (i := st0 + c) (by omega) mm))) (by omega) (by omega)
        have e9 : rUp (rKp Z.1 (st0 + c) KK) (st0 + c) (rup (rKp Z.1 (st0 + c) KK (st0 + c)) (i32 4) []) = rEd Z.1 (st0 + c) none := by
          unfold rKp
          rw [rUp_up, rUp_s]
          rfl
        rw [← e9]
        exact z7
      · obtain ⟨E6, N6, F6, st6, f6, b6, r6, zm6, nl6⟩ := zp6
        rw [← hM] at m1 hj6 hs6 hv6 hst6 b6 zm6
        rw [if_pos m1] at hO6
        have hv1 : M.2.2.1 = [hd1 M.2.2.1] := by
          match hx : M.2.2.1, hv6 with
          | [v], _ => rfl
        have eM : M.2 = ([], [hd1 M.2.2.1], M.2.2.2) := by
          rw [← hv1]
          show M.2 = ([], M.2.2)
          rw [← hst6]
        obtain ⟨v, hvd⟩ : ∃ v, v = hd1 M.2.2.1 := ⟨_, rfl⟩
        rw [← hvd] at hO6
        have zm6' := zm6
        rw [eM, ← hvd] at zm6
        have st6' : sth h6 E6 (b + 291) (b + 50) N6 F6 (ho2 + (j + j6)) la2 := by rw [← Nat.add_assoc]; exact st6
        have z6 := bk_rn z5 r6 st6' f6 (mch_z zm6')
        have zc6 := mch_s zm6'
        obtain ⟨nu, fv, fd6, vl6, wt6⟩ := mch_1 zm6
        have zz6 := mch_z zm6'
        obtain ⟨zs6, -⟩ := bsh_c ys z6
        obtain ⟨_, _, _, _, _, _, _, _, om6, -⟩ := id zc6
        obtain ⟨d1, d2, d3, d4, d5, -⟩ := code h6 z6.1.1
        have rf6 := vl_R vl6
        refine B519_115 d2 d4 ⟨_, zs6, rfl⟩ om6.2.1 rfl (c463 zz6 fd6 (ret2 (B519_130 ⟨_, zs6, rfl⟩ om6.2.1 rfl (c464 zz6 fd6 rf6 (ret3 ?_)))))
        have zr6 := z6.2.1.2 (st0 + c) (by omega)
        have hk5 : rK (rKp Z.1 (st0 + c) KK (st0 + c)) = KK := by unfold rKp; rw [rUp_s]; rfl
        refine B519_137 rf6 (rs_0 zr6) rfl (c331 (sth_hld st6) d5 vl6 (by rw [hk5]; omega) zr6 (fun h7 zr7 mm7 hk7 => ret0 ?_))
        have z7 := bk_ru (by omega) z6 mm7 zr7
        have e9 : rUp (rKp Z.1 (st0 + c) KK) (st0 + c) ((rKp Z.1 (st0 + c) KK (st0 + c)).1, (rKp Z.1 (st0 + c) KK (st0 + c)).2.1, rK (rKp Z.1 (st0 + c) KK (st0 + c)) ++ [(nm, v)], rC (rKp Z.1 (st0 + c) KK (st0 + c)), rI (rKp Z.1 (st0 + c) KK (st0 + c)), rS (rKp Z.1 (st0 + c) KK (st0 + c)), rW (rKp Z.1 (st0 + c) KK (st0 + c))) = rKp Z.1 (st0 + c) (KK ++ [(nm, v)]) := by
          unfold rKp
          rw [rUp_up, rUp_s]
          rfl
        rw [e9] at z7
        have hlo := z6.2.2.2.2.2.2
        have fr7 : ∀ a, inM (b + 292) a → re_hg h7 a = re_hg h6 a := fun a ha => mm7.1.2 a (by unfold inM at ha; omega) (by unfold inM at ha; unfold inR; omega)
        have zc7 := mcs_fr fr7 zc6
        have zz7 := mcs_z zc7
        have fd7 : fdn h7 (b + 292) nu fv := ⟨by obtain ⟨w, i, y1, y2⟩ := fd6.1; exact ⟨w, i, (fr7 _ (by unfold inM; omega)).trans y1, y2⟩, by obtain ⟨w, i, y1, y2⟩ := fd6.2; exact ⟨w, i, (fr7 _ (by unfold inM; omega)).trans y1, y2⟩⟩
        have vl7 : vl h7 E6 v nu fv := vl_keep hk7 mm7.2.1 (eLe_rf E6) vl6
        have nd7 : nd h7 E6 env kn := nd_keep hk7 mm7.2.1 (eLe_rf E6) ((rn_nd z5.2.2.1 (mcs_z zm5) r6).2.1 _ _ nd5)
        obtain ⟨zs7, -⟩ := bsh_c ys z7
        obtain ⟨_, _, _, _, _, _, _, _, om7, -⟩ := id zc7
        obtain ⟨g1, g2, g3, g4, g5, -⟩ := code h7 z7.1.1
        refine B519_140 ⟨_, zs7, rfl⟩ g2 g4 ⟨_, zs7, rfl⟩ om7.2.1 rfl (c463 zz7 fd7 (ret2 (B519_158 ⟨_, zs7, rfl⟩ om7.2.1 rfl (c464 zz7 fd7 rf6 (ret3 (B519_165 rf6 om7.2.1 rfl (c450 (rid := T) zc7 z7.2.2.1 g5 vl7 nd7 (fun h8 x8 N8 F8 hx8 st8 r8 zm8 nd8 nl8 => ret0 (B519_168 ?_)))))))))
        rw [i3_add]
        have st8' : sth h8 (eAd E6 x8 T) (b + 291) (b + 50) N8 F8 (ho2 + (j + j6 + 1)) la2 := st8
        refine ih (n + 1) (by omega) h8 (eAd E6 x8 T) N8 F8 (j + j6 + 1) (f5 + k6) M.2.2.2.1 M.2.2.2.2.1 M.2.2.2.2.2 (.ref x8) (tB nm T v env) (KK ++ [(nm, v)]) hO6 (bk_rn z7 r8 st8' (fno_Ad f6) (mcs_z zm8)) zm8 nd8 ?_ rfl b6 (by rw [List.length_append, hK5]; rfl) (by omega) (brn_tr br5 (brn_tr (brn_rn r6) (brn_tr (brn_rs (i := st0 + c) (by omega) mm7) (brn_rn r8)))) (by omega) hs6 (by omega) ?_
        · rw [wT_B, wt6, w5, s5]
          rfl
        · intro n' v' y
          rcases List.mem_append.mp y with y | y
          · exact hwk n' v' y
          · rcases List.mem_singleton.mp y with y
            cases y
            exact wt6
  refine B519_79 (loop (V c).2.length 0 (Nat.zero_add _) h4 E4 N4 F4 j4 f0 0 0 B kn4 Z.2.1 [] hO ?_ zm4 nd4 wz.1 wz.2.1 hB4 rfl (by omega) br4 (by omega) (by omega) nl4 (fun n v y => by cases y))
  have e9 : rKp Z.1 (st0 + c) [] = Z.1 := by
    unfold rKp rKe
    rw [← kZ]
    exact rUp_id
  rw [e9]
  exact z4
end RP
