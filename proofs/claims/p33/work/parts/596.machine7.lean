/-! Machine: start, know, what was found. -/
theorem mcz_no {h : re_H} {m s rr ff : Nat} (z : mcz h m s rr ff) {a t : Nat} {w : List Value} (e : re_hg h a = some (t, w)) (h1 : t < 12) (h2 : ¬ t = 7) : ¬ inM m a := by
  obtain ⟨_, _, _, _, _, kn, ps, ss, es, ns, fs, o, -⟩ := z
  exact m6_no o e h1 h2
/-- behind a piece of a run all values stand -/
theorem rn_nd {s m rid rb rr ff : Nat} {h h' : re_H} {E E' : Ev} {N N' F : List Nat} {ho la : Nat} (st : sth h E s rb N F ho la) (z : mcz h m s rr ff) (r : rn s m rid h E N h' E' N') : (∀ x, E.2.2.1 x → re_hg h' x = re_hg h x) ∧ (∀ t v, nd h E t v → nd h' E' t v) ∧ ∀ t nu v, vl h E t nu v → vl h' E' t nu v := by
  have hk : ∀ x, E.2.2.1 x → re_hg h' x = re_hg h x := fun x hx => by
    obtain ⟨w, e⟩ := sth_hld st x hx
    obtain ⟨⟨vl, vf, e', -⟩, -⟩ := st.1
    exact r.2.1 x (hg_lt e) (sto_ne st.1 (st.2 x hx).1 e' (by omega)) (mcz_no z e (by omega) (by omega)) (Or.inl hx)
  exact ⟨hk, fun t v y => nd_keep hk r.2.2.1 r.2.2.2.1 y, fun t nu v y => vl_keep hk r.2.2.1 r.2.2.2.1 y⟩
theorem hn2_kp {h h' : re_H} {s rb : Nat} {N F : List Nat} {ho la x m rid : Nat} {N' F' : List Nat} {E E' : Ev} (st : sth h E s rb N F ho la) (d : hn2 h h' s rb N F ho la x N' F') (le : eLe E E') (hx : ∀ y, E'.2.2.1 y → E.2.2.1 y ∨ (y = x ∧ E'.2.2.2 x = rid)) : sth h' E' s rb N' F' (ho + 1) la ∧ rn s m rid h E N h' E' N' := by
  have d0 := d
  obtain ⟨d1, d2, ⟨wx, d3⟩, d4, d5, d6, d7⟩ := d
  have hne : ∀ y, E.2.2.1 y → ¬ y = x := fun y hy g => d7 (g ▸ st.2 y hy)
  have kx : xk h h' := fun a w e => hn2_k st.1 d0 e (by omega) (by omega)
  have sub : ∀ y, y ∈ N → y ∈ N' := fun y hy => by
    rcases d1 with ⟨-, g, -⟩ | ⟨-, -, g, -⟩
    · rw [g]; exact hy
    · rw [g]; exact List.mem_cons_of_mem _ hy
  have subF : ∀ y, y ∈ F' → y ∈ F := fun y hy => by
    rcases d1 with ⟨g, -⟩ | ⟨-, -, -, g, -⟩
    · rw [g]; exact List.mem_cons_of_mem _ hy
    · rw [g] at hy; cases hy
  have hle : h.1 ≤ h'.1 := by rcases d1 with ⟨-, -, g⟩ | ⟨-, -, -, -, g⟩ <;> omega
  have xin : ¬ x ∈ N → x = h.1 := fun g => by
    rcases d1 with ⟨g1, -⟩ | ⟨-, g1, -⟩
    · exact absurd (st.1.2.2.2.1 x (by rw [g1]; exact List.mem_cons_self)) g
    · exact g1
  refine ⟨⟨d2, fun y hy => ?_⟩, ⟨hle, fun a ha h1 h2 h3 => ?_, kx, le, ?_, sub, fun y hy => ?_, fun y hy => (hx y hy).elim Or.inl (fun g => Or.inr (by rw [g.1]; exact g.2))⟩⟩
  · rcases hx y hy with g | ⟨rfl, -⟩
    · exact ⟨sub y (st.2 y g).1, fun g2 => (st.2 y g).2 (subF y g2)⟩
    · exact ⟨d5, d6⟩
  · refine d4 a ha h1 (fun g => ?_)
    rcases h3 with h3 | h3
    · exact hne a h3 g
    · rw [g] at h3
      have := xin h3
      omega
  · rcases d1 with ⟨-, g1, g2⟩ | ⟨-, -, g1, -, g2⟩
    · rw [g1, g2]
    · rw [g1, g2, List.length_cons]; omega
  · rcases d1 with ⟨-, g1, -⟩ | ⟨-, g0, g1, -, -⟩
    · rw [g1] at hy; exact Or.inl hy
    · rw [g1] at hy
      rcases List.mem_cons.mp hy with g | g
      · exact Or.inr (by omega)
      · exact Or.inl g
/-- what was found lies lowest -/
def fdn (h : re_H) (m : Nat) (nu : Int64) (f : Value) : Prop := nb_ar h (m + 4) 101 (i32 0) (.long nu) ∧ nb_ar h (m + 5) 106 (i32 0) f
theorem mch_1 {h : re_H} {E : Ev} {m s rr cl : Nat} {S : List (Tr × Tr × Bool)} {v : Tr} {Y : Nat × Nat × Nat} {kn : Value} {ff : Nat} (z : mch h E m s rr cl (S, [v], Y) kn ff) : ∃ (nu : Int64) (f : Value), fdn h m nu f ∧ vl h E v nu f ∧ wT v = true := by
  obtain ⟨-, -, ps, ss, es, ns, fs, o, l, -, ⟨nu, f, z1, z2, z3, z4⟩, -⟩ := z
  exact ⟨nu, f, ⟨⟨_, 0, o.2.2.2.2.2.1, rfl, by omega, z1⟩, ⟨_, 0, o.2.2.2.2.2.2.1, rfl, by omega, z2⟩⟩, z3, z4⟩
section MI
variable {SC : List Value} {d q : Nat} {h : re_H} {Q : Nat → Value → re_H → Prop} {m s rb rr cl rid : Nat} {sp dr : Nat} {kn : Value} {ff : Nat} {E : Ev} {N F : List Nat} {ho la : Nat}
theorem c463 {nu : Int64} {f : Value} (z : mcz h m s rr ff) (y : fdn h m nu f) (K : Q 2 (.long nu) h) : wp SC 463 d q 0 [(0, .ref m)] [] h Q := by
  obtain ⟨_, _, _, _, _, kn, ps, ss, es, ns, fs, o, -⟩ := z
  exact B463_0 ⟨_, o.2.1, rfl⟩ y.1 K
theorem c464 {nu : Int64} {f : Value} (z : mcz h m s rr ff) (y : fdn h m nu f) (rf : re_R f) (K : Q 3 f h) : wp SC 464 d q 0 [(0, .ref m)] [] h Q := by
  obtain ⟨_, _, _, _, _, kn, ps, ss, es, ns, fs, o, -⟩ := z
  exact B464_0 ⟨_, o.2.1, rfl⟩ rf y.2 K
theorem c450 {nm : Nat} {nu : Int64} {fn : Value} {v env : Tr} (z : mcs h m s rr cl sp dr kn ff) (st : sth h E s rb N F ho la) (hnm : nm < 16) (hv : vl h E v nu fn) (hn : nd h E env kn) (K : ∀ h' x N' F', ¬ E.2.2.1 x → sth h' (eAd E x rid) s rb N' F' (ho + 1) la → rn s m rid h E N h' (eAd E x rid) N' → mcs h' m s rr cl sp dr (.ref x) ff → nd h' (eAd E x rid) (tB nm rid v env) (.ref x) → N'.length ≤ max N.length (ho + 1 + la) → Q 0 .null h') : wp SC 450 (d + 2) q 0 [(0, .ref m), (1, .int (i32 nm)), (2, .long nu), (4, fn)] [] h Q := by
  have zz := mcs_z z
  obtain ⟨rk, x5, x8, ps, ss, es, ns, fs, o, l⟩ := z
  obtain ⟨vl', vf', es', -⟩ := st.1.1
  refine B450_0 (vl_R hv) ⟨_, o.2.1, rfl⟩ rk ⟨_, o.2.1, rfl⟩ es' rfl (c388 st.1 (vl_R hv) rk (fun h2 x2 N' F' hd => ret3 ?_))
  have hx2 : ¬ E.2.2.1 x2 := fun y => hd.2.2.2.2.2.2 (st.2 x2 y)
  have d2 := hnd_2 hd
  obtain ⟨st2, rn2⟩ := hn2_kp (m := m) (rid := rid) (E' := eAd E x2 rid) st d2 (eAd_le hx2) eAd_x
  obtain ⟨mb, e2⟩ := hd.2.2.1
  obtain ⟨hk, kn', kv⟩ := rn_nd st zz rn2
  obtain ⟨-, a0, a1, a2, a3, a4, a5, -⟩ := o
  have o2 : m6 h2 m (mW s rr m x5 x8 (i32 cl) (i32 sp) (i32 dr) kn ff) ps ss es ns fs h2 := ⟨rfl, hn2_k st.1 d2 a0 (by omega) (by omega), hn2_k st.1 d2 a1 (by omega) (by omega), hn2_k st.1 d2 a2 (by omega) (by omega), hn2_k st.1 d2 a3 (by omega) (by omega), hn2_k st.1 d2 a4 (by omega) (by omega), hn2_k st.1 d2 a5 (by omega) (by omega), fun _ _ => rfl⟩
  refine B450_16 (Or.inr ⟨x2, rfl⟩) o2.2.1 (Nat.lt_of_sub_eq_succ rfl) (B450_19 ?_)
  have o3 := m6_0 o2 12 (.ref x2)
  have a := m6_mw o2 o3
  obtain ⟨st3, rn3⟩ := mw_rn (rid := rid) st2 a
  have ndx : nd h2 (eAd E x2 rid) (tB nm rid v env) (.ref x2) := nd_B.mpr ⟨x2, nu, fn, kn, .int 0, mb, .null, rfl, Or.inr rfl, if_pos rfl, e2, kn' _ _ hn, hnm, kv _ _ _ hv⟩
  exact K _ x2 N' F' hx2 st3 (rn_tr rn2 rn3) ⟨Or.inr ⟨x2, rfl⟩, x5, x8, ps, ss, es, ns, fs, m6_rf o3, l⟩ (mw_nd (sth_hld st2) a ndx) (hn2_len st.1 d2)
theorem c449 {rf : Nat → List Value} {X : Nat → Prop} (z : mcz h m s rr ff) (o : sto h s rb N F ho la) (hN : N.length < 1000000) (rt : roots h rb rf) (hrx : ∀ (i : Nat) (v : Value), i < 24 → v ∈ rf i → ptx v X) (hX : ∀ x, X x → x ∈ N ∧ ¬ x ∈ F ∧ ∀ w, re_hg h x = some (10, w) → ∀ v : Value, (w[3]? = some v ∨ w[4]? = some v) → ptx v X)
    (K1 : ho < la + 500 → ∀ h', mcs h' m s rr cl 0 0 .null ff → mw m h h' → Q 0 .null h')
    (K2 : ∀ (h1 : re_H) (U : List Nat), sto h1 s rb N (N.filter (fun x => !decide (x ∈ U))).reverse 0 (N.filter (fun x => decide (x ∈ U))).length → h1.1 = h.1 → (∀ x, x ∈ U → re_hg h1 x = re_hg h x) → (∀ a, ¬ a = s → ¬ a ∈ N → re_hg h1 a = re_hg h a) → (∀ x, x ∈ U → X x) → (∀ (i : Nat) (v : Value), i < 24 → v ∈ rf i → ptr v U) → (∀ x, x ∈ U → ∀ w, re_hg h x = some (10, w) → ∀ v : Value, (w[3]? = some v ∨ w[4]? = some v) → ptr v U) → ∀ h', mcs h' m s rr cl 0 0 .null ff → mw m h1 h' → Q 0 .null h') :
    wp SC 449 (d + 2) q 0 [(0, .ref m), (1, .int (i32 cl))] [] h Q := by
  have z0 := z
  obtain ⟨x5, x8, x9, x10, x11, kn, ps, ss, es, ns, fs, o1, l⟩ := z
  obtain ⟨vl', vf', es', -⟩ := id o.1
  have tail : ∀ h1, mcz h1 m s rr ff → (∀ h', mcs h' m s rr cl 0 0 .null ff → mw m h1 h' → Q 0 .null h') → wp SC 449 (d + 2) q 7 [(0, .ref m), (1, .int (i32 cl))] [] h1 Q := by
    intro h1 z1 K'
    obtain ⟨x5, x8, x9, x10, x11, kn, ps, ss, es, ns, fs, o1, l⟩ := z1
    refine B449_7 o1.2.1 (Nat.lt_of_sub_eq_succ rfl) ?_
    have o2 := m6_0 o1 9 (.int (i32 cl))
    refine B449_12 o2.2.1 (Nat.lt_of_sub_eq_succ rfl) ?_
    have o3 := m6_0 o2 10 (.int (i32 0))
    refine B449_17 o3.2.1 (Nat.lt_of_sub_eq_succ rfl) ?_
    have o4 := m6_0 o3 11 (.int (i32 0))
    refine B449_22 o4.2.1 (Nat.lt_of_sub_eq_succ rfl) (B449_27 ?_)
    have o5 := m6_0 o4 12 .null
    exact K' _ ⟨Or.inl rfl, x5, x8, ps, ss, es, ns, fs, m6_rf o5, l⟩ (m6_mw o1 o5)
  refine B449_0 ⟨_, o1.2.1, rfl⟩ es' rfl (c385 o hN rt hrx hX (fun g => ret0 (tail h z0 (K1 g))) (fun h1 U g1 g2 g3 g4 g5 g6 g7 => ret0 (tail h1 ?_ (K2 h1 U g1 g2 g3 g4 g5 g6 g7))))
  have same : ∀ {a t : Nat} {w : List Value}, re_hg h a = some (t, w) → ¬ t = 10 → ¬ t = 6 → re_hg h1 a = some (t, w) := by
    intro a t w e h1' h2'
    rw [g4 a (fun y => ?_) (fun y => sto_ne o y e h1' rfl)]
    · exact e
    · subst y
      rw [e] at es'
      cases es'
      exact h2' rfl
  obtain ⟨-, a0, a1, a2, a3, a4, a5, -⟩ := o1
  exact ⟨x5, x8, x9, x10, x11, kn, ps, ss, es, ns, fs, ⟨rfl, same a0 (by omega) (by omega), same a1 (by omega) (by omega), same a2 (by omega) (by omega), same a3 (by omega) (by omega), same a4 (by omega) (by omega), same a5 (by omega) (by omega), fun _ _ => rfl⟩, l⟩
end MI
