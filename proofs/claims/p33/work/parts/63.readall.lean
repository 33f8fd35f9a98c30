/-! Sheet: all that a cell reads. -/
def inB (b a : Nat) : Prop := b + 2 ≤ a ∧ a ≤ b + 299
/-- a piece of a run, seen from outside -/
def brn (b rid : Nat) (h : re_H) (E : Ev) (N : List Nat) (h' : re_H) (E' : Ev) (N' : List Nat) : Prop :=
  h.1 ≤ h'.1 ∧ (∀ a, a < h.1 → ¬ inB b a → (E.2.2.1 a ∨ ¬ a ∈ N) → re_hg h' a = re_hg h a) ∧ xk h h' ∧ eLe E E' ∧ h'.1 + N.length = h.1 + N'.length ∧ (∀ x, x ∈ N → x ∈ N') ∧ (∀ x, x ∈ N' → x ∈ N ∨ h.1 ≤ x) ∧ ∀ x, E'.2.2.1 x → E.2.2.1 x ∨ E'.2.2.2 x = rid
theorem brn_rf {b rid : Nat} {h : re_H} {E : Ev} {N : List Nat} : brn b rid h E N h E N := ⟨Nat.le_refl _, fun _ _ _ _ => rfl, xk_rf, eLe_rf E, rfl, fun _ y => y, fun _ y => Or.inl y, fun _ y => Or.inl y⟩
theorem brn_tr {b rid : Nat} {h h1 h2 : re_H} {E E1 E2 : Ev} {N N1 N2 : List Nat} (a : brn b rid h E N h1 E1 N1) (c : brn b rid h1 E1 N1 h2 E2 N2) : brn b rid h E N h2 E2 N2 := by
  obtain ⟨a1, a2, a3, a4, a5, a6, a7, a8⟩ := a
  obtain ⟨b1, b2, b3, b4, b5, b6, b7, b8⟩ := c
  refine ⟨Nat.le_trans a1 b1, fun x hx h1 h3 => ?_, xk_tr a3 b3, eLe_tr a4 b4, by omega, fun x hx => b6 x (a6 x hx), fun x hx => ?_, fun x hx => ?_⟩
  · rw [b2 x (Nat.lt_of_lt_of_le hx a1) h1 (h3.elim (fun y => Or.inl (a4.2.2 x y).1) (fun y => Or.inr (fun z => (a7 x z).elim y (fun z2 => by omega))))]
    exact a2 x hx h1 h3
  · rcases b7 x hx with y | y
    · rcases a7 x y with z | z
      · exact Or.inl z
      · exact Or.inr z
    · exact Or.inr (Nat.le_trans a1 y)
  · rcases b8 x hx with y | y
    · rcases a8 x y with z | z
      · exact Or.inl z
      · exact Or.inr ((b4.2.2 x y).2.trans z)
    · exact Or.inr y
theorem brn_rn {b rid : Nat} {h h' : re_H} {E E' : Ev} {N N' : List Nat} (r : rn (b + 291) (b + 292) rid h E N h' E' N') : brn b rid h E N h' E' N' :=
  ⟨r.1, fun a h1 h2 h3 => r.2.1 a h1 (fun y => h2 (by unfold inB; omega)) (fun y => h2 (by unfold inM at y; unfold inB; omega)) h3, r.2.2⟩
theorem brn_rs {b rid i : Nat} {h h' : re_H} {E : Ev} {N : List Nat} (hi : i < 24) (mm : mo (inR (b + 50 + 1 + 10 * i)) 0 h h') : brn b rid h E N h' E N :=
  ⟨mm.1.1, fun a h1 h2 _ => mm.1.2 a h1 (fun y => h2 (by unfold inR at y; unfold inB; omega)), mm.2.1, eLe_rf E, by rw [mo_sz mm], fun _ y => y, fun _ y => Or.inl y, fun _ y => Or.inl y⟩
def bsh (b sh st0 : Nat) : Prop := (sh = b + 298 ∧ st0 = 0) ∨ (sh = b + 299 ∧ st0 = 12)
theorem mcs_fr {h h' : re_H} {m s rr cl sp dr ff : Nat} {kn : Value} (e : ∀ a, inM m a → re_hg h' a = re_hg h a) (z : mcs h m s rr cl sp dr kn ff) : mcs h' m s rr cl sp dr kn ff := by
  obtain ⟨rk, x5, x8, ps, ss, es, ns, fs, ⟨-, a0, a1, a2, a3, a4, a5, -⟩, l⟩ := z
  exact ⟨rk, x5, x8, ps, ss, es, ns, fs, ⟨rfl, (e _ ⟨by omega, by omega⟩).trans a0, (e _ ⟨by omega, by omega⟩).trans a1, (e _ ⟨by omega, by omega⟩).trans a2, (e _ ⟨by omega, by omega⟩).trans a3, (e _ ⟨by omega, by omega⟩).trans a4, (e _ ⟨by omega, by omega⟩).trans a5, fun _ _ => rfl⟩, l⟩
theorem vl_mrk {h : re_H} {E : Ev} {v : Tr} {nu : Int64} {f : Value} (z : vl h E v nu f) : vl h E v (mrk E (some v)) f := by
  rcases z with ⟨rfl, rfl⟩ | y
  · exact Or.inl ⟨rfl, rfl⟩
  · exact Or.inr y
/-- the name n was read -/
def sen (RR : Nat → Rs) (i n : Nat) (v : Option Tr) : Nat → Rs := fun j => if j = i then ((RR i).1, (RR i).2.1, rK (RR i), rC (RR i), rI (RR i), rS (RR i), fun k => if k = n then v else rW (RR i) k) else RR j
abbrev Yt : Type := (Nat → Rs) × Tr × Bool
noncomputable def rdN (V : Vr) (st0 c rid n : Nat) (Y : Yt) : Yt :=
  if (rds (V c).2).testBit n = true then
    match vin V Y.1 st0 n with
    | none => (sen Y.1 (st0 + c) n none, Y.2.1, false)
    | some v => (sen Y.1 (st0 + c) n (some v), tB n rid v Y.2.1, Y.2.2)
  else Y
noncomputable def rdA (V : Vr) (st0 c rid : Nat) : Nat → Yt → Yt
  | 0, Y => Y
  | n + 1, Y => rdN V st0 c rid n (rdA V st0 c rid n Y)
theorem rdN_0 {V : Vr} {st0 c rid n : Nat} {Y : Yt} (hb : (rds (V c).2).testBit n = true) (hv : vin V Y.1 st0 n = none) : rdN V st0 c rid n Y = (sen Y.1 (st0 + c) n none, Y.2.1, false) := by
  unfold rdN
  rw [if_pos hb, hv]
theorem rdN_1 {V : Vr} {st0 c rid n : Nat} {Y : Yt} {v : Tr} (hb : (rds (V c).2).testBit n = true) (hv : vin V Y.1 st0 n = some v) : rdN V st0 c rid n Y = (sen Y.1 (st0 + c) n (some v), tB n rid v Y.2.1, Y.2.2) := by
  unfold rdN
  rw [if_pos hb, hv]
theorem sen_K {RR : Nat → Rs} {i n j : Nat} {v : Option Tr} : rK (sen RR i n v j) = rK (RR j) := by
  unfold sen
  split
  next g => rw [g]
  · rfl
section RA
variable {SC : List Value} {d q : Nat} {h : re_H} {Q : Nat → Value → re_H → Prop} {sh st0 b rid : Nat} {V : Vr} {RR : Nat → Rs} {E : Ev} {I : Nat → Int64} {sd : Int32} {N F : List Nat} {ho la ff : Nat}
theorem bsh_c (y : bsh b sh st0) (z : bk h b E V I sd RR N F ho la ff) : shc h sh (b + 2) (b + 41) (b + 292) (b + 50) st0 ∧ st0 + 12 ≤ 24 := by
  rcases y with ⟨rfl, rfl⟩ | ⟨rfl, rfl⟩
  · exact ⟨z.1.2.2.2.2.1, by omega⟩
  · exact ⟨z.1.2.2.2.2.2, by omega⟩
theorem c520 {c : Nat} {kn : Value} {env : Tr} (hc : c < 12) (ys : bsh b sh st0) (z : bk h b E V I sd RR N F ho la ff) (zm : mcs h (b + 292) (b + 291) (b + 48) c 0 0 kn ff) (hn : nd h E env kn)
    (K : ∀ h' E' N' F' j kn', bk h' b E' V I sd (rdA V st0 c rid 16 (RR, env, true)).1 N' F' (ho + j) la ff → mcs h' (b + 292) (b + 291) (b + 48) c 0 0 kn' ff → nd h' E' (rdA V st0 c rid 16 (RR, env, true)).2.1 kn' → brn b rid h E N h' E' N' → j ≤ 16 → N'.length ≤ max N.length (ho + j + la) → E'.2.1 = E.2.1 → Q 1 (.int (ib (rdA V st0 c rid 16 (RR, env, true)).2.2)) h') : wp SC 520 (d + 3) q 0 [(0, .ref sh), (1, .int (i32 c)), (2, .ref (b + 50 + 1 + 10 * (st0 + c)))] [] h Q := by
  have loop : ∀ (k n : Nat), n + k = 16 → ∀ (h1 : re_H) (E1 : Ev) (N1 F1 : List Nat) (j : Nat) (kn1 : Value) (Y : Yt), Y = rdA V st0 c rid n (RR, env, true) → bk h1 b E1 V I sd Y.1 N1 F1 (ho + j) la ff → mcs h1 (b + 292) (b + 291) (b + 48) c 0 0 kn1 ff → nd h1 E1 Y.2.1 kn1 → brn b rid h E N h1 E1 N1 → j ≤ n → N1.length ≤ max N.length (ho + j + la) → E1.2.1 = E.2.1 → wp SC 520 (d + 3) q 5 [(0, .ref sh), (1, .int (i32 c)), (2, .ref (b + 50 + 1 + 10 * (st0 + c))), (3, .int (ib Y.2.2)), (4, .int (i32 n))] [] h1 Q := by
    intro k
    induction k with
    | zero =>
      intro n hn0 h1 E1 N1 F1 j kn1 Y hY z1 zm1 nd1 br1 hj nl hbb
      cases (show n = 16 by omega)
      subst hY
      exact B520_5 (fun _ => B520_111 (ib_01 _) (K h1 E1 N1 F1 j kn1 z1 zm1 nd1 br1 hj nl hbb)) (fun g => absurd ((i3_lt (by omega) (by omega)).mp g) (by omega))
    | succ k ih =>
      intro n hn0 h1 E1 N1 F1 j kn1 Y hY z1 zm1 nd1 br1 hj nl hbb
      have hn16 : n < 16 := by omega
      obtain ⟨zs, h0⟩ := bsh_c ys z1
      have zl := z1.1.2.1
      have za := z1.2.1
      have zr := za.2 (st0 + c) (by omega)
      have hl := sth_hld z1.2.2.1
      have hr := rds_lt (z1.1.1.2.2.2 c hc)
      have a3 := lk_at zl (j := 3) (i := c) (by omega) (by omega) (by show c < 12; exact hc)
      have f3 : lkF V 3 c = i32 (rds (V c).2) := rfl
      rw [f3] at a3
      have step : ∀ (h2 : re_H) (E2 : Ev) (N2 F2 : List Nat) (j2 : Nat) (kn2 : Value) (Y2 : Yt) (x : Int32), Y2 = rdN V st0 c rid n Y → x = ib Y2.2.2 → bk h2 b E2 V I sd Y2.1 N2 F2 (ho + j2) la ff → mcs h2 (b + 292) (b + 291) (b + 48) c 0 0 kn2 ff → nd h2 E2 Y2.2.1 kn2 → brn b rid h1 E1 N1 h2 E2 N2 → j2 ≤ n + 1 → N2.length ≤ max N.length (ho + j2 + la) → E2.2.1 = E1.2.1 → wp SC 520 (d + 3) q 105 [(0, .ref sh), (1, .int (i32 c)), (2, .ref (b + 50 + 1 + 10 * (st0 + c))), (3, .int x), (4, .int (i32 n))] [] h2 Q := by
        intro h2 E2 N2 F2 j2 kn2 Y2 x hY2 hx z2 zm2 nd2 br2 hj2 nl2 hb2
        subst hx
        refine B520_105 ?_
        rw [i3_add]
        exact ih (n + 1) (by omega) h2 E2 N2 F2 j2 kn2 Y2 (by rw [hY2, hY]; rfl) z2 zm2 nd2 (brn_tr br1 br2) hj2 nl2 (hb2.trans hbb)
      refine B520_5 (fun g => absurd ((i3_lt (by omega) (by omega)).mpr hn16) g) (fun _ => ?_)
      refine B520_12 ⟨_, zs, rfl⟩ ⟨_, lk_c zl, rfl⟩ a3 (fun g => ?_) (fun g => ?_)
      rotate_left
      · rw [i3_bit (by omega) (by omega)] at g
        have hbit : ¬ (rds (V c).2).testBit n = true := fun y => by
          rw [y] at g
          exact absurd (show i32 1 = 0 from g) (by decide)
        exact B520_29 (step h1 E1 N1 F1 j kn1 Y _ (by unfold rdN; rw [if_neg hbit]) rfl z1 zm1 nd1 brn_rf (by omega) nl rfl)
      rw [i3_bit (by omega) (by omega)] at g
      have hbit : (rds (V c).2).testBit n = true := by
        cases hb2 : (rds (V c).2).testBit n with
        | true => rfl
        | false => rw [hb2] at g; exact absurd rfl g
      refine B520_32 zs rfl (c516 hn16 ⟨c, hc, rds_ne hbit⟩ h0 zs zl za (fun v y => ret3 ?_))
      refine B520_38 (srv_R y) zs rfl (c517 hn16 h0 za y (ret1 ?_))
      refine B520_51 (srv_R y) zs rfl (c518 hn16 h0 za y (ret2 ?_))
      refine B520_59 (srv_R y) (rs_0 zr) rfl (c329 hl hn16 (vin_st h0 za) zr (fun h2 zr2 mm hk => ret0 ?_))
      have z2 : bk h2 b E1 V I sd (sen Y.1 (st0 + c) n (vin V Y.1 st0 n)) N1 F1 (ho + j) la ff := bk_rs (by omega) z1 mm zr2
      have zm2 := mcs_fr (fun a ha => mm.1.2 a (by have := z1.2.2.2.2.2.2; unfold inM at ha; omega) (by unfold inM at ha; unfold inR; omega)) zm1
      have nd2 : nd h2 E1 Y.2.1 kn1 := nd_keep hk mm.2.1 (eLe_rf E1) nd1
      have br2 : brn b rid h1 E1 N1 h2 E1 N1 := brn_rs (i := st0 + c) (by omega) mm
      have zs2 := (bsh_c ys z2).1
      have none' : vin V Y.1 st0 n = none → wp SC 520 (d + 3) q 77 [(0, .ref sh), (1, .int (i32 c)), (2, .ref (b + 50 + 1 + 10 * (st0 + c))), (4, .int (i32 n))] [] h2 Q := by
        intro hv
        rw [hv] at z2
        exact B520_77 (step h2 E1 N1 F1 j kn1 _ _ (rdN_0 hbit hv).symm rfl z2 zm2 nd2 br2 (by omega) nl rfl)
      rcases y with ⟨y1, rfl⟩ | ⟨c', y1, y2, rfl⟩
      · exact B520_62 (Or.inl rfl) (fun _ => none' (by unfold vin; rw [y1]; rfl)) (fun b hb => by cases hb)
      have ev : vin V Y.1 st0 n = lkp n (rK (Y.1 (st0 + c'))) := by unfold vin; rw [y1]; rfl
      have zc := z2.2.1.2 (st0 + c') (by omega)
      refine B520_62 (Or.inr ⟨_, rfl⟩) (fun hb => by cases hb) (fun b' hb => ?_)
      cases hb
      refine B520_67 (rs_0 zc) rfl (c322 hn16 zc (ret1 (B520_74 (fun g1 => ?_) (fun g1 => none' ?_))))
      rotate_left
      · rw [sen_K, ← ev] at g1
        have := knd_le (vin V Y.1 st0 n)
        have g2 := (i3_zero (by omega)).mp g1
        cases hv : vin V Y.1 st0 n with
        | none => rfl
        | some v => rw [hv, knd_s] at g2; split at g2 <;> omega
      obtain ⟨v, hv⟩ : ∃ v, vin V Y.1 st0 n = some v := by
        cases hv : vin V Y.1 st0 n with
        | some v => exact ⟨v, rfl⟩
        | none => rw [sen_K, ← ev, hv] at g1; exact absurd rfl g1
      refine B520_82 ⟨_, zs2, rfl⟩ (rs_0 zc) rfl (c324 hn16 zc (ret2 (B520_95 (rs_0 zc) rfl (c330 hn16 zc (fun f yf => ret3 ?_)))))
      rw [sen_K, ← ev, hv] at yf ⊢
      rcases yf with ⟨yf, -⟩ | ⟨v', nu, yf, yv⟩
      · cases yf
      cases yf
      obtain ⟨_, _, _, _, _, _, _, _, om, -⟩ := id zm2
      refine B520_102 (vl_R yv) om.2.1 rfl (c450 (rid := rid) zm2 z2.2.2.1 hn16 (vl_mrk yv) nd2 (fun h3 x N3 F3 hx st3 rn3 zm3 nd3 nl3 => ret0 ?_))
      rw [hv] at z2
      refine step h3 (eAd E1 x rid) N3 F3 (j + 1) (.ref x) _ _ (rdN_1 hbit hv).symm rfl (bk_rn z2 rn3 st3 (fno_Ad z2.2.2.2.1) (mcs_z zm3)) zm3 nd3 (brn_tr br2 (brn_rn rn3)) (by omega) ?_ rfl
      rw [← Nat.add_assoc]
      omega
  exact B520_0 (loop 16 0 rfl h E N F 0 kn (RR, env, true) rfl z zm hn brn_rf (Nat.le_refl _) (Nat.le_max_left _ _) rfl)
end RA
