/-! Version. -/
abbrev Vr : Type := Nat → Bool × Cd
def lst (n : Nat) (f : Nat → Value) : List Value := (List.range n).map f
theorem lst_get {n i : Nat} (f : Nat → Value) (h : i < n) : (lst n f)[i]? = some (f i) := by
  unfold lst
  rw [List.getElem?_map, List.getElem?_range h]
  rfl
theorem lst_len (n : Nat) (f : Nat → Value) : (lst n f).length = n := by unfold lst; simp
theorem lst_ext {n : Nat} {f g : Nat → Value} (h : ∀ i, i < n → f i = g i) : lst n f = lst n g :=
  List.map_congr_left (fun i hi => h i (List.mem_range.mp hi))
theorem lst_set {n i : Nat} (f : Nat → Value) (v : Value) : (lst n f).set i v = lst n (fun j => if j = i then v else f j) := by
  apply List.ext_getElem?
  intro j
  rcases Nat.lt_or_ge j n with hj | hj
  · rcases Nat.decEq i j with hne | rfl
    · rw [List.getElem?_set_ne hne, lst_get _ hj, lst_get _ hj, if_neg (fun y => hne y.symm)]
    · rw [List.getElem?_set_self (by rw [lst_len]; exact hj), lst_get _ hj, if_pos rfl]
  · rw [List.getElem?_eq_none (by rw [List.length_set, lst_len]; exact hj), List.getElem?_eq_none (by rw [lst_len]; exact hj)]
theorem rep_lst (n : Nat) (v : Value) : List.replicate n v = lst n (fun _ => v) := by
  apply List.ext_getElem?
  intro j
  rcases Nat.lt_or_ge j n with hj | hj
  · rw [lst_get _ hj, List.getElem?_replicate, if_pos hj]
  · rw [List.getElem?_eq_none (by rw [List.length_replicate]; exact hj), List.getElem?_eq_none (by rw [lst_len]; exact hj)]
def vr (h : re_H) (v : Nat) (V : Vr) : Prop := re_hg h v = some (1, [.ref (v + 1), .ref (v + 2)]) ∧ re_hg h (v + 1) = some (102, lst 12 (fun i => .int (ib (V i).1))) ∧ re_hg h (v + 2) = some (104, lst 12 (fun i => .ref (v + 3 + 3 * i))) ∧ ∀ i, i < 12 → cd h (v + 3 + 3 * i) (V i).2
def inV (v a : Nat) : Prop := v ≤ a ∧ a ≤ v + 38
theorem vr_fr {h h' : re_H} {v : Nat} {V : Vr} (e : ∀ a, inV v a → re_hg h' a = re_hg h a) (k : xk h h') (c : vr h v V) : vr h' v V := by
  obtain ⟨c1, c2, c3, c4⟩ := c
  refine ⟨by rw [e _ ⟨by omega, by omega⟩]; exact c1, by rw [e _ ⟨by omega, by omega⟩]; exact c2, by rw [e _ ⟨by omega, by omega⟩]; exact c3, fun i hi => cd_fr (fun a h1 h2 => e a ⟨by omega, by omega⟩) k (c4 i hi)⟩
theorem vr_mo {S : Nat → Prop} {n : Nat} {h h' : re_H} {v : Nat} {V : Vr} (m : mo S n h h') (hs : ∀ a, inV v a → ¬ S a) (hv : v + 38 < h.1) (c : vr h v V) : vr h' v V :=
  vr_fr (fun a ha => m.1.2 a (by have := ha.2; omega) (hs a ha)) m.2.1 c
theorem cd_top {h : re_H} {p : Nat} {C : Cd} (c : cd h p C) : p + 2 < h.1 := by
  obtain ⟨ns, es, c1, -⟩ := c
  exact hg_lt c1.2.2.1
theorem vr_top {h : re_H} {v : Nat} {V : Vr} (c : vr h v V) : v + 38 < h.1 := by
  have := cd_top (c.2.2.2 11 (by omega))
  omega
def vup (V : Vr) (i : Nat) (q : Bool × Cd) : Vr := fun j => if j = i then q else V j
theorem cd_hg {h : re_H} {p : Nat} {C : Cd} (c : cd h p C) : ∃ w, re_hg h p = some (2, w) := by
  obtain ⟨ns, es, c1, -⟩ := c
  exact ⟨_, c1.1⟩
/-- one code is another one -/
theorem vr_cd {n : Nat} {h h' : re_H} {v i : Nat} {V : Vr} {C' : Cd} (c : vr h v V) (hi : i < 12) (c' : cd h' (v + 3 + 3 * i) C') (m : mo (in3 (v + 3 + 3 * i)) n h h') : vr h' v (vup V i ((V i).1, C')) := by
  have ht := vr_top c
  obtain ⟨c1, c2, c3, c4⟩ := c
  have out : ∀ a, a < v + 3 + 3 * i ∨ v + 3 + 3 * i + 2 < a → ¬ in3 (v + 3 + 3 * i) a := fun a h1 z => by unfold in3 at z; omega
  refine ⟨mo_g m (out _ (by omega)) c1, ?_, mo_g m (out _ (by omega)) c3, fun j hj => ?_⟩
  · rw [show lst 12 (fun j => .int (ib (vup V i ((V i).1, C') j).1)) = lst 12 (fun j => .int (ib (V j).1)) from lst_ext (fun j _ => by unfold vup; split <;> simp_all)]
    exact mo_g m (out _ (by omega)) c2
  · unfold vup
    split
    next e => subst e; exact c'
    next e => exact cd_fr (fun a h1 h2 => m.1.2 a (by omega) (out a (by omega))) m.2.1 (c4 j hj)
/-- one mark is another one -/
theorem vr_th {h : re_H} {v i : Nat} {V : Vr} {b : Bool} (c : vr h v V) : vr (re_hw h (v + 1) (102, (lst 12 (fun j => .int (ib (V j).1))).set i (.int (ib b)))) v (vup V i (b, (V i).2)) ∧ mo (inV v) 0 h (re_hw h (v + 1) (102, (lst 12 (fun j => .int (ib (V j).1))).set i (.int (ib b)))) := by
  have m : mo (inV v) 0 h (re_hw h (v + 1) (102, (lst 12 (fun j => .int (ib (V j).1))).set i (.int (ib b)))) := mo_hw c.2.1 (by omega) ⟨by omega, by omega⟩
  obtain ⟨c1, c2, c3, c4⟩ := c
  refine ⟨⟨by rw [hw_n (by omega)]; exact c1, ?_, by rw [hw_n (by omega)]; exact c3, fun j hj => ?_⟩, m⟩
  · rw [hw_s (hg_lt c2), lst_set]
    rw [show lst 12 (fun j => if j = i then .int (ib b) else .int (ib (V j).1)) = lst 12 (fun j => .int (ib (vup V i (b, (V i).2) j).1)) from lst_ext (fun j _ => by unfold vup; split <;> rfl)]
  · have : (vup V i (b, (V i).2) j).2 = (V j).2 := by unfold vup; split <;> simp_all
    rw [this]
    exact cd_fr (fun a h1 h2 => hw_n (by omega)) m.2.1 (c4 j hj)
theorem nar_b (b : Bool) : vp_nar .boolean (ib b) = ib b := by cases b <;> decide
def vcl (V : Vr) : Nat → Nat
  | 0 => 0
  | k + 1 => vcl V k ||| (if (V k).1 then 2 ^ k else 0)
theorem if_bit {b : Bool} {k i : Nat} : Nat.testBit (if b = true then 2 ^ k else 0) i = (decide (i = k) && b) := by
  cases b
  · simp
  · rw [if_pos rfl, Nat.testBit_two_pow]
    simp [eq_comm]
theorem vcl_bit (V : Vr) (i : Nat) : ∀ k, (vcl V k).testBit i = (decide (i < k) && (V i).1)
  | 0 => by simp [vcl]
  | k + 1 => by
    unfold vcl
    rw [Nat.testBit_or, vcl_bit V i k, if_bit]
    rcases Nat.lt_trichotomy i k with h | rfl | h
    · have h1 : ¬ i = k := by omega
      simp [h, Nat.lt_succ_of_lt h, h1]
    · simp
    · have h1 : ¬ i < k := by omega
      have h2 : ¬ i < k + 1 := by omega
      have h3 : ¬ i = k := by omega
      simp [h1, h2, h3]
theorem vcl_lt (V : Vr) (k : Nat) : vcl V k < 2 ^ k := lt_of_bits (fun i hi => by
  rw [vcl_bit] at hi
  simpa using (show decide (i < k) = true from ((Bool.and_eq_true _ _).mp hi).1))
def vmn (V : Vr) (nm : Nat) : Nat → Bool
  | 0 => false
  | k + 1 => vmn V nm k || (mnt (V k).2).testBit nm
theorem vmn_up {V : Vr} {nm k m : Nat} (h : vmn V nm k = true) (hk : k ≤ m) : vmn V nm m = true := by
  induction m with
  | zero => cases (show k = 0 by omega); exact h
  | succ m ih =>
    rcases Nat.lt_or_ge k (m + 1) with g | g
    · unfold vmn
      rw [ih (by omega)]
      rfl
    · cases (show k = m + 1 by omega)
      exact h
def vxg (nm ot : Nat) (V : Vr) (k : Nat) : Vr := fun i => if i < k then ((V i).1, cxg nm ot (V i).2) else V i
def vxn (nm : Nat) (V : Vr) : Nat → Nat
  | 0 => 0
  | k + 1 => vxn nm V k + cxn nm (V k).2
def vps (V : Vr) : Nat → Nat
  | 0 => 0
  | k + 1 => vps V k + cps (V k).2
theorem fold_lt {C : Cd} {f : Nat → Nat × Tr → Nat} {n : Nat} (hf : ∀ m q, q ∈ C → m < 2 ^ n → f m q < 2 ^ n) : ∀ {m : Nat}, m < 2 ^ n → C.foldl f m < 2 ^ n := by
  induction C with
  | nil => exact fun h => h
  | cons q r ih => exact fun {m} h => ih (fun m' q' hq' => hf m' q' (List.mem_cons_of_mem _ hq')) (hf m q List.mem_cons_self h)
theorem cd_lt {h : re_H} {p : Nat} {C : Cd} (c : cd h p C) : dfd C < 2 ^ 16 ∧ mnt C < 2 ^ 16 ∧ ius C < 2 ^ 16 := by
  obtain ⟨ns, es, -, -, -, c4⟩ := c
  have hm : ∀ q ∈ C, q.1 < 16 ∧ men q.2 < 2 ^ 16 ∧ inps q.2 < 2 ^ 16 := fun q hq => by
    obtain ⟨i, hi⟩ := List.getElem?_of_mem hq
    obtain ⟨-, g2, b, -, g4, -⟩ := c4.2 i q.1 q.2 hi
    exact ⟨g2, (fre_lt g4).2.1, (fre_lt g4).2.2⟩
  have hd : dfd C < 2 ^ 16 := fold_lt (fun m q hq hm' => Nat.or_lt_two_pow hm' (pow_lt16 (hm q hq).1)) (by decide)
  exact ⟨hd, fold_lt (fun m q hq hm' => Nat.or_lt_two_pow hm' (hm q hq).2.1) hd, fold_lt (fun m q hq hm' => Nat.or_lt_two_pow hm' (hm q hq).2.2) (by decide)⟩
section VW
variable {SC : List Value} {d q : Nat} {h : re_H} {Q : Nat → Value → re_H → Prop} {v : Nat} {V : Vr}
theorem c65 (c : vr h v V) (K : Q 1 (.int (i32 (vcl V 12))) h) : wp SC 65 d q 0 [(0, .ref v)] [] h Q := by
  have loop : ∀ k i : Nat, i + k = 12 → wp SC 65 d q 4 [(0, .ref v), (1, .int (i32 (vcl V i))), (2, .int (i32 i))] [] h Q := by
    intro k
    induction k with
    | zero =>
      intro i hi
      cases (show i = 12 by omega)
      exact B65_4 (fun _ => B65_35 K) (fun g => absurd ((i3_lt (by omega) (by omega)).mp g) (by omega))
    | succ k ih =>
      intro i hi
      refine B65_4 (fun g => absurd ((i3_lt (by omega) (by omega)).mpr (by omega)) g) (fun _ => ?_)
      refine B65_10 ⟨_, c.1, rfl⟩ ⟨_, i, c.2.1, rfl, by omega, lst_get _ (by omega)⟩ (fun g => B65_26 (B65_27 ?_)) (fun g => B65_20 (B65_27 ?_))
      · rw [i3_or, i3_add]
        have := ih (i + 1) (by omega)
        unfold vcl at this
        rw [if_neg (by rw [ib_0.mp g]; decide)] at this
        exact this
      · rw [i3_shl (by omega), i3_or, i3_add]
        have := ih (i + 1) (by omega)
        unfold vcl at this
        rw [if_pos (by cases hv : (V i).1 with | true => rfl | false => exact absurd (ib_0.mpr hv) g)] at this
        exact this
  exact B65_0 (loop 12 0 rfl)
theorem c66 {i : Nat} (hi : i < 12) (c : vr h v V) (K : ∀ h', vr h' v (vup V i (false, [])) → mo (inV v) 0 h h' → Q 0 .null h') : wp SC 66 (d + 1) q 0 [(0, .ref v), (1, .int (i32 i))] [] h Q := by
  refine B66_0 ⟨_, c.1, rfl⟩ c.2.1 rfl (by omega) (by rw [lst_len]; exact hi) ?_
  rw [show vp_nar .boolean (i32 0) = ib false from by decide]
  obtain ⟨c2, m2⟩ := vr_th (i := i) (b := false) c
  obtain ⟨w, hw⟩ := cd_hg (c2.2.2.2 i hi)
  refine B66_7 ⟨_, c2.1, rfl⟩ ⟨_, i, c2.2.2.1, rfl, by omega, lst_get _ hi⟩ hw rfl (c138 (c2.2.2.2 i hi) (fun h' c3 m3 => ret0 (B66_16 (K h' ?_ (mo_tr m2 (mo_mono m3 (fun a _ z => ?_) (Nat.le_refl 0)) (Nat.le_refl 0))))))
  · have := vr_cd c2 hi c3 m3
    rw [show vup (vup V i (false, (V i).2)) i ((vup V i (false, (V i).2) i).1, []) = vup V i (false, []) from funext (fun j => by unfold vup; by_cases hj : j = i <;> simp [hj])] at this
    exact this
  · unfold in3 at z; unfold inV; omega
theorem c70 {u i : Nat} {F : Vr} (hi : i < 12) (c : vr h v V) (f : vr h u F) (hu : v + 39 ≤ u ∨ u + 39 ≤ v) (K : ∀ h', vr h' v (vup V i (F i)) → mo (inV v) 0 h h' → Q 0 .null h') : wp SC 70 (d + 1) q 0 [(0, .ref v), (1, .ref u), (2, .int (i32 i))] [] h Q := by
  refine B70_0 ⟨_, c.1, rfl⟩ ⟨_, f.1, rfl⟩ ⟨_, i, f.2.1, rfl, by omega, lst_get _ hi⟩ c.2.1 rfl (by omega) (by rw [lst_len]; exact hi) ?_
  rw [nar_b]
  obtain ⟨c2, m2⟩ := vr_th (i := i) (b := (F i).1) c
  have f2 := vr_mo m2 (fun a h1 h2 => by unfold inV at h1 h2; omega) (vr_top f) f
  obtain ⟨w, hw⟩ := cd_hg (c2.2.2.2 i hi)
  refine B70_12 ⟨_, c2.1, rfl⟩ ⟨_, i, c2.2.2.1, rfl, by omega, lst_get _ hi⟩ ⟨_, f2.1, rfl⟩ ⟨_, i, f2.2.2.1, rfl, by omega, lst_get _ hi⟩ hw rfl (c134 (c2.2.2.2 i hi) (f2.2.2.2 i hi) (by omega) (fun h' c3 m3 => ret0 (B70_27 (K h' ?_ (mo_tr m2 (mo_mono m3 (fun a _ z => ?_) (Nat.le_refl 0)) (Nat.le_refl 0))))))
  · have := vr_cd c2 hi c3 m3
    rw [show vup (vup V i ((F i).1, (V i).2)) i ((vup V i ((F i).1, (V i).2) i).1, (F i).2) = vup V i (F i) from funext (fun j => by unfold vup; by_cases hj : j = i <;> simp [hj])] at this
    exact this
  · unfold in3 at z; unfold inV; omega
theorem c69 {u : Nat} {F : Vr} (c : vr h v V) (f : vr h u F) (hu : v + 39 ≤ u ∨ u + 39 ≤ v) (K : ∀ h', vr h' v (fun i => if i < 12 then F i else V i) → mo (inV v) 0 h h' → Q 0 .null h') : wp SC 69 (d + 2) q 0 [(0, .ref v), (1, .ref u)] [] h Q := by
  have loop : ∀ k i : Nat, i + k = 12 → ∀ h1, vr h1 v (fun j => if j < i then F j else V j) → mo (inV v) 0 h h1 → wp SC 69 (d + 2) q 2 [(0, .ref v), (1, .ref u), (2, .int (i32 i))] [] h1 Q := by
    intro k
    induction k with
    | zero =>
      intro i hi h1 c1 m1
      cases (show i = 12 by omega)
      exact B69_2 (fun _ => B69_20 (K h1 c1 m1)) (fun g => absurd ((i3_lt (by omega) (by omega)).mp g) (by omega))
    | succ k ih =>
      intro i hi h1 c1 m1
      refine B69_2 (fun g => absurd ((i3_lt (by omega) (by omega)).mpr (by omega)) g) (fun _ => ?_)
      have f1 := vr_mo m1 (fun a h1 h2 => by unfold inV at h1 h2; omega) (vr_top f) f
      refine B69_8 c1.1 rfl (c70 (i := i) (by omega) c1 f1 hu (fun h2 c2 m2 => ret0 (B69_14 ?_)))
      rw [i3_add]
      refine ih (i + 1) (by omega) h2 ?_ (mo_tr m1 m2 (Nat.le_refl 0))
      rw [show (fun j => if j < i + 1 then F j else V j) = vup (fun j => if j < i then F j else V j) i (F i) from funext (fun j => by
        unfold vup
        by_cases hj : j = i
        · subst hj; simp
        · rw [if_neg hj]
          show (if j < i + 1 then F j else V j) = if j < i then F j else V j
          by_cases h9 : j < i
          · rw [if_pos h9, if_pos (by omega)]
          · rw [if_neg h9, if_neg (by omega)])]
      exact c2
  exact B69_0 (loop 12 0 rfl h (by simpa using c) mo_rf)
theorem c71 {u i : Nat} {F : Vr} (hi : i < 12) (c : vr h v V) (f : vr h u F) (K : Q 1 (.int (ib ((V i).1 == (F i).1 && ceq (V i).2 (F i).2))) h) : wp SC 71 (d + 32) q 0 [(0, .ref v), (1, .ref u), (2, .int (i32 i))] [] h Q := by
  refine B71_0 ⟨_, c.1, rfl⟩ ⟨_, i, c.2.1, rfl, by omega, lst_get _ hi⟩ ⟨_, f.1, rfl⟩ ⟨_, i, f.2.1, rfl, by omega, lst_get _ hi⟩ (fun g => B71_37 (B71_38 (Or.inl rfl) ?_)) (fun g => ?_)
  · rw [show ((V i).1 == (F i).1) = false from beq_eq_false_iff_ne.mpr (fun y => g (by rw [y]))] at K
    exact K
  · have e : (V i).1 = (F i).1 := by
      cases h1 : (V i).1 <;> cases h2 : (F i).1 <;> first | rfl | (rw [h1, h2] at g; exact absurd g (by decide))
    rw [show ((V i).1 == (F i).1) = true from by rw [e]; simp] at K
    obtain ⟨w, hw⟩ := cd_hg (c.2.2.2 i hi)
    refine B71_15 ⟨_, c.1, rfl⟩ ⟨_, i, c.2.2.1, rfl, by omega, lst_get _ hi⟩ ⟨_, f.1, rfl⟩ ⟨_, i, f.2.2.1, rfl, by omega, lst_get _ hi⟩ hw rfl (c131 (c.2.2.2 i hi) (f.2.2.2 i hi) (ret1 ?_))
    refine B71_30 (fun g => B71_37 (B71_38 (Or.inl rfl) ?_)) (fun g => B71_33 (B71_38 (Or.inr rfl) ?_))
    · rw [ib_0.mp g] at K; exact K
    · rw [show ceq (V i).2 (F i).2 = true from by cases hc : ceq (V i).2 (F i).2 with | true => rfl | false => exact absurd (ib_0.mpr hc) g] at K; exact K
theorem c67 {nm : Nat} (hn : nm < 16) (c : vr h v V) (K : Q 1 (.int (ib (vmn V nm 12))) h) : wp SC 67 (d + 2) q 0 [(0, .ref v), (1, .int (i32 nm))] [] h Q := by
  have loop : ∀ k i : Nat, i + k = 12 → vmn V nm i = false → wp SC 67 (d + 2) q 2 [(0, .ref v), (1, .int (i32 nm)), (2, .int (i32 i))] [] h Q := by
    intro k
    induction k with
    | zero =>
      intro i hi he
      cases (show i = 12 by omega)
      rw [he] at K
      exact B67_2 (fun _ => B67_33 K) (fun g => absurd ((i3_lt (by omega) (by omega)).mp g) (by omega))
    | succ k ih =>
      intro i hi he
      refine B67_2 (fun g => absurd ((i3_lt (by omega) (by omega)).mpr (by omega)) g) (fun _ => ?_)
      have ci := c.2.2.2 i (by omega)
      obtain ⟨w, hw⟩ := cd_hg ci
      have hl := (cd_lt ci).2.1
      have hv : vmn V nm (i + 1) = (mnt (V i).2).testBit nm := by show (vmn V nm i || _) = _; rw [he]; rfl
      refine B67_8 ⟨_, c.1, rfl⟩ ⟨_, i, c.2.2.1, rfl, by omega, lst_get _ (by omega)⟩ hw rfl (c139 ci (ret1 ?_))
      refine B67_17 (fun g => B67_27 ?_) (fun g => B67_25 ?_)
      · rw [i3_bit (by omega) (by omega)] at g
        rw [i3_add]
        refine ih (i + 1) (by omega) ?_
        rw [hv]
        cases ht : (mnt (V i).2).testBit nm with
        | false => rfl
        | true => rw [ht] at g; exact absurd rfl g
      · rw [i3_bit (by omega) (by omega)] at g
        rw [vmn_up (k := i + 1) (m := 12) ?_ (by omega)] at K
        · exact K
        rw [hv]
        cases ht : (mnt (V i).2).testBit nm with
        | true => rfl
        | false => rw [ht] at g; exact absurd g (by decide)
  exact B67_0 (loop 12 0 rfl rfl)
theorem c68 {nm ot : Nat} (hn : nm < 16) (ho : ot < 16) (c : vr h v V) (K : ∀ h', vr h' v (vxg nm ot V 12) → mo (inV v) (vps V 12) h h' → Q 1 (.int (i32 (vxn nm V 12))) h') : wp SC 68 (d + 32) q 0 [(0, .ref v), (1, .int (i32 nm)), (2, .int (i32 ot))] [] h Q := by
  have loop : ∀ k i : Nat, i + k = 12 → ∀ h1, vr h1 v (vxg nm ot V i) → mo (inV v) (vps V i) h h1 → wp SC 68 (d + 32) q 5 [(0, .ref v), (1, .int (i32 nm)), (2, .int (i32 ot)), (3, .int (i32 (vxn nm V i))), (4, .int (i32 i))] [] h1 Q := by
    intro k
    induction k with
    | zero =>
      intro i hi h1 c1 m1
      cases (show i = 12 by omega)
      exact B68_5 (fun _ => B68_33 (K h1 c1 m1)) (fun g => absurd ((i3_lt (by omega) (by omega)).mp g) (by omega))
    | succ k ih =>
      intro i hi h1 c1 m1
      refine B68_5 (fun g => absurd ((i3_lt (by omega) (by omega)).mpr (by omega)) g) (fun _ => ?_)
      have ci := c1.2.2.2 i (by omega)
      have hVi : vxg nm ot V i i = V i := if_neg (by omega)
      rw [hVi] at ci
      obtain ⟨w, hw⟩ := cd_hg ci
      refine B68_12 ⟨_, c1.1, rfl⟩ ⟨_, i, c1.2.2.1, rfl, by omega, lst_get _ (by omega)⟩ hw rfl (c140 hn ho ci (fun h2 c2 m2 => ret1 (B68_25 ?_)))
      rw [i3_add, i3_add]
      refine ih (i + 1) (by omega) h2 ?_ (mo_tr m1 (mo_mono m2 (fun a _ z => by unfold in3 at z; unfold inV; omega) (Nat.le_refl _)) (Nat.le_refl _))
      have := vr_cd c1 (by omega) c2 m2
      rw [hVi] at this
      rw [show vxg nm ot V (i + 1) = vup (vxg nm ot V i) i ((V i).1, cxg nm ot (V i).2) from funext (fun j => by
        unfold vup vxg
        by_cases hj : j = i
        · subst hj; simp
        · rw [if_neg hj]
          by_cases h9 : j < i
          · rw [if_pos h9, if_pos (by omega)]
          · rw [if_neg h9, if_neg (by omega)])]
      exact this
  exact B68_0 (loop 12 0 rfl h (by rw [show vxg nm ot V 0 = V from funext (fun j => if_neg (by omega))]; exact c) mo_rf)
end VW
