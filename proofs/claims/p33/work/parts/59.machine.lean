/-! Machine: its cells. -/
/-- what is to be begun or ended (top first), what was given (top first), steps, draws, the next function -/
abbrev Mt : Type := List (Tr × Tr × Bool) × List Tr × Nat × Nat × Nat
def isS : Tr → Bool
  | .leaf => true
  | .inner k _ _ _ _ => k == 4
def wT : Tr → Bool
  | .leaf => true
  | .inner k _ _ a b => if k = 3 then decide (inps a < 16) && wT b && isS b else if k = 4 then wT a && wT b && isS b else true
def inM (m a : Nat) : Prop := m ≤ a ∧ a ≤ m + 5
def mW (s rr m : Nat) (op ht cl sp dr : Int32) (kn : Value) (ff : Nat) : List Value := [.ref s, .ref rr, .ref (m + 1), .ref (m + 2), .ref (m + 3), .int op, .ref (m + 4), .ref (m + 5), .int ht, .int cl, .int sp, .int dr, kn, .long (Int64.ofNat ff)]
/-- six cells are written -/
def m6 (h0 : re_H) (m : Nat) (w0 ps ss es ns fs : List Value) (h : re_H) : Prop := h.1 = h0.1 ∧ re_hg h m = some (7, w0) ∧ re_hg h (m + 1) = some (103, ps) ∧ re_hg h (m + 2) = some (106, ss) ∧ re_hg h (m + 3) = some (102, es) ∧ re_hg h (m + 4) = some (101, ns) ∧ re_hg h (m + 5) = some (106, fs) ∧ ∀ a, ¬ inM m a → re_hg h a = re_hg h0 a
section M6
variable {h0 h : re_H} {m : Nat} {w0 ps ss es ns fs : List Value}
theorem m6_0 (o : m6 h0 m w0 ps ss es ns fs h) (k : Nat) (v : Value) : m6 h0 m (w0.set k v) ps ss es ns fs (re_hw h m (7, w0.set k v)) := by
  obtain ⟨z, a0, a1, a2, a3, a4, a5, oth⟩ := o
  exact ⟨z, hw_s (hg_lt a0), by rw [hw_n (by omega)]; exact a1, by rw [hw_n (by omega)]; exact a2, by rw [hw_n (by omega)]; exact a3, by rw [hw_n (by omega)]; exact a4, by rw [hw_n (by omega)]; exact a5, fun a ha => (hw_n (show ¬ a = m from fun y => ha (by subst y; exact ⟨by omega, by omega⟩))).trans (oth a ha)⟩
theorem m6_1 (o : m6 h0 m w0 ps ss es ns fs h) (k : Nat) (v : Value) : m6 h0 m w0 (ps.set k v) ss es ns fs (re_hw h (m + 1) (103, ps.set k v)) := by
  obtain ⟨z, a0, a1, a2, a3, a4, a5, oth⟩ := o
  exact ⟨z, by rw [hw_n (by omega)]; exact a0, hw_s (hg_lt a1), by rw [hw_n (by omega)]; exact a2, by rw [hw_n (by omega)]; exact a3, by rw [hw_n (by omega)]; exact a4, by rw [hw_n (by omega)]; exact a5, fun a ha => (hw_n (show ¬ a = m + 1 from fun y => ha (by subst y; exact ⟨by omega, by omega⟩))).trans (oth a ha)⟩
theorem m6_2 (o : m6 h0 m w0 ps ss es ns fs h) (k : Nat) (v : Value) : m6 h0 m w0 ps (ss.set k v) es ns fs (re_hw h (m + 2) (106, ss.set k v)) := by
  obtain ⟨z, a0, a1, a2, a3, a4, a5, oth⟩ := o
  exact ⟨z, by rw [hw_n (by omega)]; exact a0, by rw [hw_n (by omega)]; exact a1, hw_s (hg_lt a2), by rw [hw_n (by omega)]; exact a3, by rw [hw_n (by omega)]; exact a4, by rw [hw_n (by omega)]; exact a5, fun a ha => (hw_n (show ¬ a = m + 2 from fun y => ha (by subst y; exact ⟨by omega, by omega⟩))).trans (oth a ha)⟩
theorem m6_3 (o : m6 h0 m w0 ps ss es ns fs h) (k : Nat) (v : Value) : m6 h0 m w0 ps ss (es.set k v) ns fs (re_hw h (m + 3) (102, es.set k v)) := by
  obtain ⟨z, a0, a1, a2, a3, a4, a5, oth⟩ := o
  exact ⟨z, by rw [hw_n (by omega)]; exact a0, by rw [hw_n (by omega)]; exact a1, by rw [hw_n (by omega)]; exact a2, hw_s (hg_lt a3), by rw [hw_n (by omega)]; exact a4, by rw [hw_n (by omega)]; exact a5, fun a ha => (hw_n (show ¬ a = m + 3 from fun y => ha (by subst y; exact ⟨by omega, by omega⟩))).trans (oth a ha)⟩
theorem m6_4 (o : m6 h0 m w0 ps ss es ns fs h) (k : Nat) (v : Value) : m6 h0 m w0 ps ss es (ns.set k v) fs (re_hw h (m + 4) (101, ns.set k v)) := by
  obtain ⟨z, a0, a1, a2, a3, a4, a5, oth⟩ := o
  exact ⟨z, by rw [hw_n (by omega)]; exact a0, by rw [hw_n (by omega)]; exact a1, by rw [hw_n (by omega)]; exact a2, by rw [hw_n (by omega)]; exact a3, hw_s (hg_lt a4), by rw [hw_n (by omega)]; exact a5, fun a ha => (hw_n (show ¬ a = m + 4 from fun y => ha (by subst y; exact ⟨by omega, by omega⟩))).trans (oth a ha)⟩
theorem m6_5 (o : m6 h0 m w0 ps ss es ns fs h) (k : Nat) (v : Value) : m6 h0 m w0 ps ss es ns (fs.set k v) (re_hw h (m + 5) (106, fs.set k v)) := by
  obtain ⟨z, a0, a1, a2, a3, a4, a5, oth⟩ := o
  exact ⟨z, by rw [hw_n (by omega)]; exact a0, by rw [hw_n (by omega)]; exact a1, by rw [hw_n (by omega)]; exact a2, by rw [hw_n (by omega)]; exact a3, by rw [hw_n (by omega)]; exact a4, hw_s (hg_lt a5), fun a ha => (hw_n (show ¬ a = m + 5 from fun y => ha (by subst y; exact ⟨by omega, by omega⟩))).trans (oth a ha)⟩
theorem m6_rf (o : m6 h0 m w0 ps ss es ns fs h) : m6 h m w0 ps ss es ns fs h := ⟨rfl, o.2.1, o.2.2.1, o.2.2.2.1, o.2.2.2.2.1, o.2.2.2.2.2.1, o.2.2.2.2.2.2.1, fun _ _ => rfl⟩
theorem inM_c {a : Nat} (ha : inM m a) : a = m ∨ a = m + 1 ∨ a = m + 2 ∨ a = m + 3 ∨ a = m + 4 ∨ a = m + 5 := by
  obtain ⟨h1, h2⟩ := ha
  omega
/-- what is no machine is none of its cells -/
theorem m6_no (o : m6 h0 m w0 ps ss es ns fs h) {a t : Nat} {w : List Value} (e : re_hg h a = some (t, w)) (h1 : t < 12) (h2 : ¬ t = 7) : ¬ inM m a := fun ha => by
  obtain ⟨z, a0, a1, a2, a3, a4, a5, oth⟩ := o
  have key : ∀ {t' : Nat} {w' : List Value}, re_hg h a = some (t', w') → ¬ t = t' → False := fun {t' w'} e' hn => by
    rw [e] at e'
    cases e'
    exact hn rfl
  rcases inM_c ha with rfl | rfl | rfl | rfl | rfl | rfl
  · exact key a0 h2
  · exact key a1 (by omega)
  · exact key a2 (by omega)
  · exact key a3 (by omega)
  · exact key a4 (by omega)
  · exact key a5 (by omega)
end M6
/-- only the machine's cells were written -/
def mw (m : Nat) (h h' : re_H) : Prop := h'.1 = h.1 ∧ (∀ a, ¬ inM m a → re_hg h' a = re_hg h a) ∧ ∀ a t w, re_hg h a = some (t, w) → t < 12 → ¬ t = 7 → re_hg h' a = some (t, w)
theorem mw_rf {m : Nat} {h : re_H} : mw m h h := ⟨rfl, fun _ _ => rfl, fun _ _ _ e _ _ => e⟩
theorem mw_tr {m : Nat} {h h1 h2 : re_H} (a : mw m h h1) (b : mw m h1 h2) : mw m h h2 := ⟨b.1.trans a.1, fun x hx => (b.2.1 x hx).trans (a.2.1 x hx), fun x t w e h1 h2 => b.2.2 x t w (a.2.2 x t w e h1 h2) h1 h2⟩
theorem mw_xk {m : Nat} {h h' : re_H} (a : mw m h h') : xk h h' := fun x w e => a.2.2 x 9 w e (by omega) (by omega)
theorem m6_mw {h0 h : re_H} {m : Nat} {w0 ps ss es ns fs w1 ps1 ss1 es1 ns1 fs1 : List Value} (o : m6 h0 m w0 ps ss es ns fs h0) (o1 : m6 h0 m w1 ps1 ss1 es1 ns1 fs1 h) : mw m h0 h :=
  ⟨o1.1, o1.2.2.2.2.2.2.2, fun a t w e h1 h2 => (o1.2.2.2.2.2.2.2 a (m6_no o e h1 h2)).trans e⟩
theorem mw_nd {m : Nat} {h h' : re_H} {E : Ev} (hh : hld h E) (a : mw m h h') {t : Tr} {v : Value} (z : nd h E t v) : nd h' E t v :=
  nd_keep (fun x hx => by
    obtain ⟨w, e⟩ := hh x hx
    rw [e]
    exact a.2.2 x 10 w e (by omega) (by omega)) (mw_xk a) (eLe_rf E) z
theorem mw_vl {m : Nat} {h h' : re_H} {E : Ev} (hh : hld h E) (a : mw m h h') {t : Tr} {nu : Int64} {v : Value} (z : vl h E t nu v) : vl h' E t nu v :=
  z.elim Or.inl (fun y => Or.inr ⟨y.1, mw_nd hh a y.2⟩)
theorem mw_hld {m : Nat} {h h' : re_H} {E : Ev} (hh : hld h E) (a : mw m h h') : hld h' E := fun x hx => by
  obtain ⟨w, e⟩ := hh x hx
  exact ⟨w, a.2.2 x 10 w e (by omega) (by omega)⟩
/-- the rows up to their heights -/
def sk (h : re_H) (E : Ev) (ps ss es : List Value) : List (Tr × Tr × Bool) → Prop
  | [] => True
  | p :: r => (∃ vp vs : Value, ps[r.length]? = some vp ∧ ex h p.1 vp ∧ inps p.1 < 16 ∧ ss[r.length]? = some vs ∧ nd h E p.2.1 vs ∧ wT p.2.1 = true ∧ isS p.2.1 = true ∧ es[r.length]? = some (.int (ib p.2.2))) ∧ sk h E ps ss es r
def vk (h : re_H) (E : Ev) (ns fs : List Value) : List Tr → Prop
  | [] => True
  | v :: r => (∃ (nu : Int64) (f : Value), ns[r.length]? = some (.long nu) ∧ fs[r.length]? = some f ∧ vl h E v nu f ∧ wT v = true) ∧ vk h E ns fs r
theorem sk_fr {h h' : re_H} {E E' : Ev} (kx : xk h h') (kn : ∀ t v, nd h E t v → nd h' E' t v) {ps ss es ps' ss' es' : List Value} : ∀ {l : List (Tr × Tr × Bool)}, (∀ i, i < l.length → ps'[i]? = ps[i]? ∧ ss'[i]? = ss[i]? ∧ es'[i]? = es[i]?) → sk h E ps ss es l → sk h' E' ps' ss' es' l
  | [], _, _ => trivial
  | p :: r, e, z => by
    obtain ⟨⟨vp, vs, z1, z2, z3, z4, z5, z6, z7, z8⟩, z9⟩ := z
    have e1 := e r.length (by simp)
    refine ⟨⟨vp, vs, e1.1.trans z1, ex_xk kx z2, z3, e1.2.1.trans z4, kn _ _ z5, z6, z7, e1.2.2.trans z8⟩, sk_fr kx kn (fun i hi => e i (by rw [List.length_cons]; omega)) z9⟩
theorem vk_fr {h h' : re_H} {E E' : Ev} (kv : ∀ t nu v, vl h E t nu v → vl h' E' t nu v) {ns fs ns' fs' : List Value} : ∀ {l : List Tr}, (∀ i, i < l.length → ns'[i]? = ns[i]? ∧ fs'[i]? = fs[i]?) → vk h E ns fs l → vk h' E' ns' fs' l
  | [], _, _ => trivial
  | p :: r, e, z => by
    obtain ⟨⟨nu, f, z1, z2, z3, z4⟩, z9⟩ := z
    have e1 := e r.length (by simp)
    exact ⟨⟨nu, f, e1.1.trans z1, e1.2.trans z2, kv _ _ _ z3, z4⟩, vk_fr kv (fun i hi => e i (by rw [List.length_cons]; omega)) z9⟩
def mch (h : re_H) (E : Ev) (m s rr cl : Nat) (M : Mt) (kn : Value) (ff : Nat) : Prop := hld h E ∧ re_R kn ∧ ∃ ps ss es ns fs : List Value, m6 h m (mW s rr m (i32 M.1.length) (i32 M.2.1.length) (i32 cl) (i32 M.2.2.1) (i32 M.2.2.2.1) kn ff) ps ss es ns fs h ∧ (ps.length = 604 ∧ ss.length = 604 ∧ es.length = 604 ∧ ns.length = 301 ∧ fs.length = 301) ∧ sk h E ps ss es M.1 ∧ vk h E ns fs M.2.1
/-- whatever it is in the midst of -/
def mcz (h : re_H) (m s rr ff : Nat) : Prop := ∃ (x5 x8 x9 x10 x11 : Int32) (kn : Value) (ps ss es ns fs : List Value), m6 h m (mW s rr m x5 x8 x9 x10 x11 kn ff) ps ss es ns fs h ∧ (ps.length = 604 ∧ ss.length = 604 ∧ es.length = 604 ∧ ns.length = 301 ∧ fs.length = 301)
theorem mch_z {h : re_H} {E : Ev} {m s rr cl : Nat} {M : Mt} {kn : Value} {ff : Nat} (z : mch h E m s rr cl M kn ff) : mcz h m s rr ff := by
  obtain ⟨-, -, ps, ss, es, ns, fs, o, l, -⟩ := z
  exact ⟨_, _, _, _, _, kn, ps, ss, es, ns, fs, o, l⟩
def psh (e env : Tr) (b : Bool) (M : Mt) : Mt := ((e, env, b) :: M.1, M.2)
def gvn (v : Tr) (M : Mt) : Mt := (M.1, v :: M.2.1, M.2.2)
section MC
variable {SC : List Value} {d q : Nat} {h : re_H} {Q : Nat → Value → re_H → Prop} {m s rr cl : Nat} {M : Mt} {kn : Value} {ff : Nat} {E : Ev}
theorem c452 {e env : Tr} {v1 v2 : Value} {b : Bool} (z : mch h E m s rr cl M kn ff) (he : ex h e v1) (hi : inps e < 16) (hn : nd h E env v2) (hw : wT env = true) (hs : isS env = true) (hl : M.1.length < 604) (K : ∀ h', mch h' E m s rr cl (psh e env b M) kn ff → mw m h h' → Q 0 .null h') : wp SC 452 d q 0 [(0, .ref m), (1, v1), (2, v2), (3, .int (ib b))] [] h Q := by
  obtain ⟨hh, rk, ps, ss, es, ns, fs, o, ⟨l1, l2, l3, l4, l5⟩, zs, zv⟩ := z
  have r1 := ex_R he
  have r2 := nd_R hn
  refine B452_0 r1 r2 ⟨_, o.2.1, rfl⟩ (fun g => absurd ((i3_lt (by omega) (by omega)).mpr hl) g) (fun _ => ?_)
  refine B452_10 r1 r2 ⟨_, o.2.1, rfl⟩ ⟨_, o.2.1, rfl⟩ o.2.2.1 rfl (by omega) (by omega) ?_ ?_
  · rcases r1 with rfl | ⟨x, rfl⟩
    · exact Or.inl rfl
    · exact Or.inr ⟨x, (ex_9 he).elim (fun w g => ⟨w, rfl, g⟩)⟩
  have o1 := m6_1 o M.1.length v1
  have n9 : ∀ h', mw m h h' → v2 = .null ∨ ∃ (b : Nat) (ws : List Value), v2 = .ref b ∧ re_hg h' b = some (10, ws) := fun h' a => nd_9 (mw_nd hh a hn)
  refine B452_20 r2 ⟨_, o1.2.1, rfl⟩ ⟨_, o1.2.1, rfl⟩ o1.2.2.2.1 rfl (by omega) (by omega) (n9 _ (m6_mw o o1)) ?_
  have o2 := m6_2 o1 M.1.length v2
  refine B452_30 ⟨_, o2.2.1, rfl⟩ ⟨_, o2.2.1, rfl⟩ o2.2.2.2.2.1 rfl (by omega) (by omega) ?_
  rw [show vp_nar .boolean (ib b) = ib b by cases b <;> rfl]
  have o3 := m6_3 o2 M.1.length (.int (ib b))
  refine B452_40 ⟨_, o3.2.1, rfl⟩ o3.2.1 (Nat.lt_of_sub_eq_succ rfl) (B452_50 ?_)
  rw [i3_add]
  have o4 := m6_0 o3 5 (.int (i32 (M.1.length + 1)))
  have a := m6_mw o o4
  refine K _ ⟨mw_hld hh a, rk, _, _, _, _, _, m6_rf o4, ⟨by simp [l1], by simp [l2], by simp [l3], l4, l5⟩, ⟨⟨v1, v2, ?_, ex_xk (mw_xk a) he, hi, ?_, mw_nd hh a hn, hw, hs, ?_⟩, sk_fr (mw_xk a) (fun _ _ y => mw_nd hh a y) (fun i hi => ?_) zs⟩, vk_fr (fun _ _ _ y => mw_vl hh a y) (fun _ _ => ⟨rfl, rfl⟩) zv⟩ a
  · exact List.getElem?_set_self (by omega)
  · exact List.getElem?_set_self (by omega)
  · exact List.getElem?_set_self (by omega)
  · exact ⟨List.getElem?_set_ne (by omega), List.getElem?_set_ne (by omega), List.getElem?_set_ne (by omega)⟩
theorem c455 {v : Tr} {nu : Int64} {f : Value} (z : mch h E m s rr cl M kn ff) (hv : vl h E v nu f) (hw : wT v = true) (hl : M.2.1.length ≤ 300) (K : ∀ h', mch h' E m s rr cl (gvn v M) kn ff → mw m h h' → Q 1 (.int (i32 1)) h') : wp SC 455 d q 0 [(0, .ref m), (1, .long nu), (3, f)] [] h Q := by
  obtain ⟨hh, rk, ps, ss, es, ns, fs, o, ⟨l1, l2, l3, l4, l5⟩, zs, zv⟩ := z
  have r1 := vl_R hv
  refine B455_0 r1 ⟨_, o.2.1, rfl⟩ (fun _ => ?_) (fun g => absurd ((i3_lt (by omega) (by omega)).mp g) (by omega))
  refine B455_12 r1 ⟨_, o.2.1, rfl⟩ ⟨_, o.2.1, rfl⟩ o.2.2.2.2.2.1 rfl (by omega) (by omega) ?_
  have o1 := m6_4 o M.2.1.length (.long nu)
  refine B455_22 r1 ⟨_, o1.2.1, rfl⟩ ⟨_, o1.2.1, rfl⟩ o1.2.2.2.2.2.2.1 rfl (by omega) (by omega) (vl_9 (mw_vl hh (m6_mw o o1) hv)) ?_
  have o2 := m6_5 o1 M.2.1.length f
  refine B455_32 ⟨_, o2.2.1, rfl⟩ o2.2.1 (Nat.lt_of_sub_eq_succ rfl) (B455_42 ?_)
  rw [i3_add]
  have o4 := m6_0 o2 8 (.int (i32 (M.2.1.length + 1)))
  have a := m6_mw o o4
  refine K _ ⟨mw_hld hh a, rk, _, _, _, _, _, m6_rf o4, ⟨l1, l2, l3, by simp [l4], by simp [l5]⟩, sk_fr (mw_xk a) (fun _ _ y => mw_nd hh a y) (fun _ _ => ⟨rfl, rfl, rfl⟩) zs, ⟨⟨nu, f, ?_, ?_, mw_vl hh a hv, hw⟩, vk_fr (fun _ _ _ y => mw_vl hh a y) (fun i hi => ?_) zv⟩⟩ a
  · exact List.getElem?_set_self (by omega)
  · exact List.getElem?_set_self (by omega)
  · exact ⟨List.getElem?_set_ne (by omega), List.getElem?_set_ne (by omega)⟩
/-- the name's first node -/
def lku (nm : Nat) : Tr → Option Tr
  | .leaf => none
  | .inner _ l _ a b => if l.1 = nm then some a else lku nm b
theorem wT_B {nm rid : Nat} {a r : Tr} : wT (tB nm rid a r) = (wT a && wT r && isS r) := rfl
theorem wT_C {st rid : Nat} {a r : Tr} : wT (tC st rid a r) = (decide (inps a < 16) && wT r && isS r) := rfl
theorem c461 {nm : Nat} {env : Tr} {v2 : Value} (z : mch h E m s rr cl M kn ff) (hnm : nm < 16) (hn : nd h E env v2) (hw : wT env = true) (hs : isS env = true) (hl : M.2.1.length ≤ 300) (K0 : lku nm env = none → Q 1 (.int 0) h) (K : ∀ v h', lku nm env = some v → mch h' E m s rr cl (gvn v M) kn ff → mw m h h' → Q 1 (.int (i32 1)) h') : wp SC 461 (d + 1) q 0 [(0, .ref m), (1, .int (i32 nm)), (2, v2)] [] h Q := by
  have loop : ∀ (env : Tr) (v2 : Value), nd h E env v2 → wT env = true → isS env = true → (lku nm env = none → Q 1 (.int 0) h) → (∀ v h', lku nm env = some v → mch h' E m s rr cl (gvn v M) kn ff → mw m h h' → Q 1 (.int (i32 1)) h') → wp SC 461 (d + 1) q 2 [(0, .ref m), (1, .int (i32 nm)), (3, v2)] [] h Q := by
    intro env
    induction env with
    | leaf =>
      intro v2 hn hw hs K0 K
      cases (show v2 = .null from hn)
      exact B461_2 (Or.inl rfl) (fun _ => B461_35 (K0 rfl)) (fun b hb => by cases hb)
    | inner k l u a b iha ihb =>
      intro v2 hn hw hs K0 K
      rcases nd_cases hn with ⟨h1, -⟩ | ⟨st, rid, code, env', h1⟩ | ⟨nm', rid, a', rest, h1⟩
      · cases h1
      · rw [h1] at hs; cases hs
      · rw [h1] at hw hn K0 K
        have hb : b = rest := by cases h1; rfl
        rw [wT_B, Bool.and_eq_true, Bool.and_eq_true] at hw
        obtain ⟨x, nu, c3, c4, c5, c6, c7, rfl, y2, y3, y4, y5, y6, y7⟩ := nd_B.mp hn
        refine B461_2 (Or.inr ⟨x, rfl⟩) (fun hb => by cases hb) (fun b' hb' => ?_)
        cases hb'
        have lk : lku nm (tB nm' rid a' rest) = if nm' = nm then some a' else lku nm rest := rfl
        refine B461_6 ⟨_, y4, rfl⟩ (fun g => ?_) (fun g => ?_)
        · have hne : ¬ nm' = nm := fun y => g (by rw [y])
          rw [if_neg hne] at lk
          rw [lk] at K0 K
          refine B461_27 (nd_R y5) ⟨_, y4, rfl⟩ ?_
          rw [← hb] at y5 hw K0 K
          exact ihb c4 y5 hw.1.2 hw.2 K0 K
        · have he : nm' = nm := (i3_eq (by omega) (by omega)).mp g
          rw [if_pos he] at lk
          refine B461_14 ⟨_, y4, rfl⟩ (vl_R y7) ⟨_, y4, rfl⟩ z.2.2.choose_spec.choose_spec.choose_spec.choose_spec.choose_spec.1.2.1 rfl (c455 z y7 hw.1.1 hl (fun h' z' a => ret1 (B461_26 (Or.inr rfl) (K a' h' lk z' a))))
  exact B461_0 (nd_R hn) (loop env v2 hn hw hs K0 K)
end MC
