/-! Machine: nodes are made. -/
theorem sto_fr {h h' : re_H} {s rb : Nat} {N F : List Nat} {ho la : Nat} (k : ∀ a t w, re_hg h a = some (t, w) → t = 6 ∨ t = 10 → re_hg h' a = some (t, w)) (hs : h.1 ≤ h'.1) (o : sto h s rb N F ho la) : sto h' s rb N F ho la := by
  obtain ⟨⟨vl, vf, e, cN, cF⟩, dN, dF, sub, cells, cnt, low⟩ := o
  refine ⟨⟨vl, vf, k _ _ _ e (Or.inl rfl), chn_cong (fun x hx w hw => ⟨w, k _ _ _ hw (Or.inr rfl), rfl⟩) cN, chn_cong (fun x hx w hw => ⟨w, k _ _ _ hw (Or.inr rfl), rfl⟩) cF⟩, dN, dF, sub, fun x hx => ?_, cnt, fun x hx => Nat.lt_of_lt_of_le (low x hx) hs⟩
  obtain ⟨c0, nm, nu, c3, c4, mb, nx, h1, h2⟩ := cells x hx
  exact ⟨c0, nm, nu, c3, c4, mb, nx, k _ _ _ h1 (Or.inr rfl), h2⟩
theorem sto_x0 {h : re_H} {s rb : Nat} {N F : List Nat} {ho la x : Nat} {w : List Value} {v : Value} (o : sto h s rb N F ho la) (hx : x ∈ N) (hf : ¬ x ∈ F) (e1 : re_hg h x = some (10, w)) (rv : re_R v) : sto (re_hw h x (10, w.set 0 v)) s rb N F ho la := by
  have o0 := o
  obtain ⟨⟨vl, vf, e, cN, cF⟩, dN, dF, sub, cells, cnt, low⟩ := o
  have hxs : ¬ s = x := fun y => sto_ne o0 hx e (by omega) y.symm
  have same : ∀ k, ¬ k = 0 → ∀ y, ∀ w', re_hg h y = some (10, w') → ∃ w'', re_hg (re_hw h x (10, w.set 0 v)) y = some (10, w'') ∧ w''[k]? = w'[k]? := by
    intro k hk y w' hw'
    rcases Nat.decEq y x with hne | rfl
    · exact ⟨w', by rw [hw_n hne]; exact hw', rfl⟩
    · rw [e1] at hw'
      cases hw'
      exact ⟨_, hw_s (hg_lt e1), List.getElem?_set_ne (fun y => hk y.symm)⟩
  refine ⟨⟨vl, vf, by rw [hw_n hxs]; exact e, chn_cong (fun y _ w' hw' => same 6 (by omega) y w' hw') cN, chn_cong (fun y _ w' hw' => same 7 (by omega) y w' hw') cF⟩, dN, dF, sub, fun y hy => ?_, cnt, low⟩
  obtain ⟨c0, nm, nu, c3, c4, mb, nx, h1, h2, h3, h4, h5, h6⟩ := cells y hy
  rcases Nat.decEq y x with hne | rfl
  · exact ⟨c0, nm, nu, c3, c4, mb, nx, by rw [hw_n hne]; exact h1, h2, h3, h4, h5, h6⟩
  · rw [e1] at h1
    cases h1
    exact ⟨v, nm, nu, c3, c4, mb, nx, hw_s (hg_lt e1), rv, h3, h4, fun y => absurd y hf, h6⟩
/-- what is held is handed out -/
def sth (h : re_H) (E : Ev) (s rb : Nat) (N F : List Nat) (ho la : Nat) : Prop := sto h s rb N F ho la ∧ ∀ x, E.2.2.1 x → x ∈ N ∧ ¬ x ∈ F
/-- the functions' numbers -/
def fno (E : Ev) (k : Nat) : Prop := (∀ t, t < E.2.1 → E.1 t < k) ∧ (∀ t u, t < E.2.1 → u < E.2.1 → E.1 t = E.1 u → t = u) ∧ k < 2 ^ 62
theorem fno_sg {E : Ev} {k : Nat} (f : fno E k) : eInj E := fun t u ht hu g => by
  refine f.2.1 t u ht hu ?_
  have h1 := f.1 t ht
  have h2 := f.1 u hu
  have h3 := f.2.2
  unfold sg at g
  have g' := congrArg Int64.toInt g
  rw [Int64.toInt_ofNat_of_lt (by omega), Int64.toInt_ofNat_of_lt (by omega)] at g'
  omega
/-- a piece of a run -/
def rn (s m rid : Nat) (h : re_H) (E : Ev) (N : List Nat) (h' : re_H) (E' : Ev) (N' : List Nat) : Prop :=
  h.1 ≤ h'.1 ∧ (∀ a, a < h.1 → ¬ a = s → ¬ inM m a → (E.2.2.1 a ∨ ¬ a ∈ N) → re_hg h' a = re_hg h a) ∧ xk h h' ∧ eLe E E' ∧ h'.1 + N.length = h.1 + N'.length ∧ (∀ x, x ∈ N → x ∈ N') ∧ (∀ x, x ∈ N' → x ∈ N ∨ h.1 ≤ x) ∧ ∀ x, E'.2.2.1 x → E.2.2.1 x ∨ E'.2.2.2 x = rid
theorem rn_rf {s m rid : Nat} {h : re_H} {E : Ev} {N : List Nat} : rn s m rid h E N h E N := ⟨Nat.le_refl _, fun _ _ _ _ _ => rfl, xk_rf, eLe_rf E, rfl, fun _ y => y, fun _ y => Or.inl y, fun _ y => Or.inl y⟩
theorem rn_tr {s m rid : Nat} {h h1 h2 : re_H} {E E1 E2 : Ev} {N N1 N2 : List Nat} (a : rn s m rid h E N h1 E1 N1) (b : rn s m rid h1 E1 N1 h2 E2 N2) : rn s m rid h E N h2 E2 N2 := by
  obtain ⟨a1, a2, a3, a4, a5, a6, a7, a8⟩ := a
  obtain ⟨b1, b2, b3, b4, b5, b6, b7, b8⟩ := b
  refine ⟨Nat.le_trans a1 b1, fun x hx h1 h2 h3 => ?_, xk_tr a3 b3, eLe_tr a4 b4, by omega, fun x hx => b6 x (a6 x hx), fun x hx => ?_, fun x hx => ?_⟩
  · rw [b2 x (Nat.lt_of_lt_of_le hx a1) h1 h2 (h3.elim (fun y => Or.inl (a4.2.2 x y).1) (fun y => Or.inr (fun z => (a7 x z).elim y (fun z2 => by omega))))]
    exact a2 x hx h1 h2 h3
  · rcases b7 x hx with y | y
    · rcases a7 x y with z | z
      · exact Or.inl z
      · exact Or.inr z
    · exact Or.inr (Nat.le_trans a1 y)
  · rcases b8 x hx with y | y
    · rcases a8 x y with z | z
      · exact Or.inl z
      · exact Or.inr ((b4.2.2 x y).2.trans z)
    · exact Or.inr y
theorem mw_rn {s m rid rb : Nat} {h h' : re_H} {E : Ev} {N F : List Nat} {ho la : Nat} (st : sth h E s rb N F ho la) (a : mw m h h') : sth h' E s rb N F ho la ∧ rn s m rid h E N h' E N :=
  ⟨⟨sto_fr (fun x t w e ht => a.2.2 x t w e (by omega) (by omega)) (Nat.le_of_eq a.1.symm) st.1, st.2⟩, Nat.le_of_eq a.1.symm, fun x _ _ h2 _ => a.2.1 x h2, mw_xk a, eLe_rf E, by rw [a.1], fun _ y => y, fun _ y => Or.inl y, fun _ y => Or.inl y⟩
/-- a node was handed out, and perhaps its code set -/
def hn2 (h h' : re_H) (s rb : Nat) (N F : List Nat) (ho la x : Nat) (N' F' : List Nat) : Prop := ((F = x :: F' ∧ N' = N ∧ h'.1 = h.1) ∨ (F = [] ∧ x = h.1 ∧ N' = x :: N ∧ F' = [] ∧ h'.1 = h.1 + 1)) ∧ sto h' s rb N' F' (ho + 1) la ∧ (∃ w, re_hg h' x = some (10, w)) ∧ (∀ a, a < h.1 → ¬ a = s → ¬ a = x → re_hg h' a = re_hg h a) ∧ x ∈ N' ∧ ¬ x ∈ F' ∧ ¬ (x ∈ N ∧ ¬ x ∈ F)
theorem hnd_2 {h h' : re_H} {s rb : Nat} {N F : List Nat} {ho la x : Nat} {N' F' : List Nat} {nm : Int32} {nu : Int64} {c3 c4 : Value} (d : hnd h h' s rb N F ho la x N' F' nm nu c3 c4) : hn2 h h' s rb N F ho la x N' F' := by
  obtain ⟨d1, d2, ⟨mb, d3⟩, d4⟩ := d
  exact ⟨d1, d2, ⟨_, d3⟩, d4⟩
theorem hn2_x {h h' : re_H} {s rb : Nat} {N F : List Nat} {ho la x : Nat} {N' F' : List Nat} {w : List Value} {v : Value} (d : hn2 h h' s rb N F ho la x N' F') (e : re_hg h' x = some (10, w)) (rv : re_R v) : hn2 h (re_hw h' x (10, w.set 0 v)) s rb N F ho la x N' F' := by
  obtain ⟨d1, d2, d3, d4, d5, d6, d7⟩ := d
  exact ⟨d1, sto_x0 d2 d5 d6 e rv, ⟨_, hw_s (hg_lt e)⟩, fun a h1 h2 h3 => (hw_n h3).trans (d4 a h1 h2 h3), d5, d6, d7⟩
theorem hn2_k {h h' : re_H} {s rb : Nat} {N F : List Nat} {ho la x : Nat} {N' F' : List Nat} (o : sto h s rb N F ho la) (d : hn2 h h' s rb N F ho la x N' F') {a t : Nat} {w : List Value} (e : re_hg h a = some (t, w)) (h1 : ¬ t = 6) (h2 : ¬ t = 10) : re_hg h' a = some (t, w) := by
  obtain ⟨d1, d2, d3, d4, d5, d6, d7⟩ := d
  have ha := hg_lt e
  rw [d4 a ha (fun y => ?_) (fun y => ?_)]
  · exact e
  · subst y
    obtain ⟨⟨vl, vf, e', -⟩, -⟩ := o
    rw [e] at e'
    cases e'
    exact h1 rfl
  · subst y
    rcases d1 with ⟨d1, -⟩ | ⟨-, d1, -⟩
    · exact sto_ne o (o.2.2.2.1 a (by rw [d1]; exact List.mem_cons_self)) e h2 rfl
    · omega
theorem hn2_keep {h h' : re_H} {s rb : Nat} {N F : List Nat} {ho la x m rr cl rid : Nat} {N' F' : List Nat} {E E' : Ev} {M : Mt} {kn : Value} {ff : Nat} (st : sth h E s rb N F ho la) (d : hn2 h h' s rb N F ho la x N' F') (le : eLe E E') (hx : ∀ y, E'.2.2.1 y → E.2.2.1 y ∨ (y = x ∧ E'.2.2.2 x = rid)) (z : mch h E m s rr cl M kn ff) :
    sth h' E' s rb N' F' (ho + 1) la ∧ rn s m rid h E N h' E' N' ∧ mch h' E' m s rr cl M kn ff ∧ (∀ t v, nd h E t v → nd h' E' t v) ∧ ∀ t nu v, vl h E t nu v → vl h' E' t nu v := by
  have d0 := d
  obtain ⟨d1, d2, ⟨wx, d3⟩, d4, d5, d6, d7⟩ := d
  obtain ⟨hh, rk, ps, ss, es, ns, fs, o, l, zs, zv⟩ := z
  have hne : ∀ y, E.2.2.1 y → ¬ y = x := fun y hy g => d7 (g ▸ st.2 y hy)
  have hk : ∀ y, E.2.2.1 y → re_hg h' y = re_hg h y := fun y hy => by
    have hyN := (st.2 y hy).1
    obtain ⟨⟨vl, vf, e, -⟩, -⟩ := st.1
    exact d4 y (st.1.2.2.2.2.2.2 y hyN) (sto_ne st.1 hyN e (by omega)) (hne y hy)
  have kx : xk h h' := fun a w e => hn2_k st.1 d0 e (by omega) (by omega)
  have kn' : ∀ t v, nd h E t v → nd h' E' t v := fun t v y => nd_keep hk kx le y
  have kv : ∀ t nu v, vl h E t nu v → vl h' E' t nu v := fun t nu v y => vl_keep hk kx le y
  have sub : ∀ y, y ∈ N → y ∈ N' := fun y hy => by
    rcases d1 with ⟨-, g, -⟩ | ⟨-, -, g, -⟩
    · rw [g]; exact hy
    · rw [g]; exact List.mem_cons_of_mem _ hy
  have subF : ∀ y, y ∈ F' → y ∈ F := fun y hy => by
    rcases d1 with ⟨g, -⟩ | ⟨-, -, -, g, -⟩
    · rw [g]; exact List.mem_cons_of_mem _ hy
    · rw [g] at hy; cases hy
  have hle : h.1 ≤ h'.1 := by rcases d1 with ⟨-, -, g⟩ | ⟨-, -, -, -, g⟩ <;> omega
  have xin : ¬ x ∈ N → x = h.1 := fun g => by
    rcases d1 with ⟨g1, -⟩ | ⟨-, g1, -⟩
    · exact absurd (st.1.2.2.2.1 x (by rw [g1]; exact List.mem_cons_self)) g
    · exact g1
  refine ⟨⟨d2, fun y hy => ?_⟩, ⟨hle, fun a ha h1 h2 h3 => ?_, kx, le, ?_, sub, fun y hy => ?_, fun y hy => (hx y hy).elim Or.inl (fun g => Or.inr (by rw [g.1]; exact g.2))⟩, ⟨fun y hy => ?_, rk, ps, ss, es, ns, fs, ?_, l, sk_fr kx kn' (fun _ _ => ⟨rfl, rfl, rfl⟩) zs, vk_fr kv (fun _ _ => ⟨rfl, rfl⟩) zv⟩, kn', kv⟩
  · rcases hx y hy with g | ⟨rfl, -⟩
    · exact ⟨sub y (st.2 y g).1, fun g2 => (st.2 y g).2 (subF y g2)⟩
    · exact ⟨d5, d6⟩
  · refine d4 a ha h1 (fun g => ?_)
    rcases h3 with h3 | h3
    · exact hne a h3 g
    · rw [g] at h3
      have := xin h3
      omega
  · rcases d1 with ⟨-, g1, g2⟩ | ⟨-, -, g1, -, g2⟩
    · rw [g1, g2]
    · rw [g1, g2, List.length_cons]; omega
  · rcases d1 with ⟨-, g1, -⟩ | ⟨-, g0, g1, -, -⟩
    · rw [g1] at hy; exact Or.inl hy
    · rw [g1] at hy
      rcases List.mem_cons.mp hy with g | g
      · exact Or.inr (by omega)
      · exact Or.inl g
  · rcases hx y hy with g | ⟨rfl, -⟩
    · obtain ⟨w, e⟩ := hh y g
      exact ⟨w, (hk y g).trans e⟩
    · exact ⟨wx, d3⟩
  · obtain ⟨-, a0, a1, a2, a3, a4, a5, -⟩ := o
    exact ⟨rfl, hn2_k st.1 d0 a0 (by omega) (by omega), hn2_k st.1 d0 a1 (by omega) (by omega), hn2_k st.1 d0 a2 (by omega) (by omega), hn2_k st.1 d0 a3 (by omega) (by omega), hn2_k st.1 d0 a4 (by omega) (by omega), hn2_k st.1 d0 a5 (by omega) (by omega), fun _ _ => rfl⟩
/-- with one more node, and one more function -/
def eAd (E : Ev) (x rid : Nat) : Ev := (E.1, E.2.1, fun y => E.2.2.1 y ∨ y = x, fun y => if y = x then rid else E.2.2.2 y)
def eFn (E : Ev) (k : Nat) : Ev := (fun t => if t = E.2.1 then k else E.1 t, E.2.1 + 1, E.2.2)
theorem eAd_le {E : Ev} {x rid : Nat} (hx : ¬ E.2.2.1 x) : eLe E (eAd E x rid) := ⟨fun _ _ => rfl, Nat.le_refl _, fun y hy => ⟨Or.inl hy, if_neg (fun g => hx (by rw [← g]; exact hy))⟩⟩
theorem eAd_x {E : Ev} {x rid : Nat} : ∀ y, (eAd E x rid).2.2.1 y → E.2.2.1 y ∨ (y = x ∧ (eAd E x rid).2.2.2 x = rid) := fun y hy => hy.elim Or.inl (fun g => Or.inr ⟨g, if_pos rfl⟩)
theorem eFn_le {E : Ev} {k : Nat} : eLe E (eFn E k) := ⟨fun t ht => if_neg (by omega), Nat.le_succ _, fun y hy => ⟨hy, rfl⟩⟩
theorem fno_Ad {E : Ev} {x rid k : Nat} (f : fno E k) : fno (eAd E x rid) k := f
theorem fno_Fn {E : Ev} {k : Nat} (f : fno E k) (hk : k + 1 < 2 ^ 62) : fno (eFn E k) (k + 1) := by
  obtain ⟨f1, f2, f3⟩ := f
  refine ⟨fun t ht => ?_, fun t u ht hu g => ?_, hk⟩
  · have ht : t < E.2.1 + 1 := ht
    show (if t = E.2.1 then k else E.1 t) < k + 1
    split
    · omega
    · have := f1 t (by omega); omega
  · have ht : t < E.2.1 + 1 := ht
    have hu : u < E.2.1 + 1 := hu
    have g : (if t = E.2.1 then k else E.1 t) = (if u = E.2.1 then k else E.1 u) := g
    by_cases c1 : t = E.2.1 <;> by_cases c2 : u = E.2.1
    · omega
    · rw [if_pos c1, if_neg c2] at g
      have := f1 u (by omega); omega
    · rw [if_neg c1, if_pos c2] at g
      have := f1 t (by omega); omega
    · rw [if_neg c1, if_neg c2] at g
      exact f2 t u (by omega) (by omega) g
