/-! Store: handing out. -/
def chn (h : re_H) (k : Nat) : List Nat → Value → Prop
  | [], v => v = .null
  | x :: r, v => v = .ref x ∧ ∃ (w : List Value) (u : Value), re_hg h x = some (10, w) ∧ w[k]? = some u ∧ chn h k r u
theorem chn_R {h : re_H} {k : Nat} {l : List Nat} {v : Value} (c : chn h k l v) : re_R v := by
  cases l with
  | nil => exact Or.inl c
  | cons x r => exact Or.inr ⟨x, c.1⟩
theorem chn_cong {h h' : re_H} {k : Nat} : ∀ {l : List Nat} {v : Value}, (∀ x, x ∈ l → ∀ w, re_hg h x = some (10, w) → ∃ w', re_hg h' x = some (10, w') ∧ w'[k]? = w[k]?) → chn h k l v → chn h' k l v
  | [], v, _, c => c
  | x :: r, v, e, c => by
    obtain ⟨h1, w, u, h2, h3, h4⟩ := c
    obtain ⟨w', g1, g2⟩ := e x List.mem_cons_self w h2
    exact ⟨h1, w', u, g1, g2.trans h3, chn_cong (fun y hy => e y (List.mem_cons_of_mem _ hy)) h4⟩
theorem chn_null {h : re_H} {k : Nat} {l : List Nat} (c : chn h k l .null) : l = [] := by
  cases l with
  | nil => rfl
  | cons x r => cases c.1
/-- the store: all nodes, the free ones, how many are handed out, how many last -/
def sto (h : re_H) (s rb : Nat) (N F : List Nat) (ho la : Nat) : Prop := (∃ vl vf : Value, re_hg h s = some (6, [.ref rb, vl, vf, .null, .int (i32 ho), .int (i32 la)]) ∧ chn h 6 N vl ∧ chn h 7 F vf) ∧ N.Nodup ∧ F.Nodup ∧ (∀ x, x ∈ F → x ∈ N) ∧
  (∀ x, x ∈ N → ∃ (c0 : Value) (nm : Int32) (nu : Int64) (c3 c4 mb nx : Value), re_hg h x = some (10, [c0, .int nm, .long nu, c3, c4, .int 0, mb, nx]) ∧ re_R c0 ∧ re_R c3 ∧ re_R c4 ∧ (x ∈ F → c0 = .null) ∧ (¬ x ∈ F → nx = .null)) ∧ N.length = F.length + ho + la ∧ ∀ x, x ∈ N → x < h.1
theorem sto_ne {h : re_H} {s rb : Nat} {N F : List Nat} {ho la : Nat} (o : sto h s rb N F ho la) {x a t : Nat} {w : List Value} (hx : x ∈ N) (e : re_hg h a = some (t, w)) (ht : ¬ t = 10) : ¬ x = a := fun y => by
  subst y
  obtain ⟨c0, nm, nu, c3, c4, mb, nx, h1, -⟩ := o.2.2.2.2.1 x hx
  rw [h1] at e
  cases e
  exact ht rfl
/-- two cells are written -/
def tw (h0 : re_H) (s x : Nat) (ws wx : List Value) (h : re_H) : Prop := h.1 = h0.1 ∧ re_hg h s = some (6, ws) ∧ re_hg h x = some (10, wx) ∧ ∀ a, ¬ a = s → ¬ a = x → re_hg h a = re_hg h0 a
theorem tw_ne {h0 h : re_H} {s x : Nat} {ws wx : List Value} (o : tw h0 s x ws wx h) : ¬ s = x := fun y => by
  subst y
  have h1 := o.2.1
  rw [o.2.2.1] at h1
  cases h1
theorem tw_s {h0 h : re_H} {s x : Nat} {ws wx : List Value} (o : tw h0 s x ws wx h) (k : Nat) (v : Value) : tw h0 s x (ws.set k v) wx (re_hw h s (6, ws.set k v)) :=
  ⟨o.1, hw_s (hg_lt o.2.1), by rw [hw_n (fun y => tw_ne o y.symm)]; exact o.2.2.1, fun a h1 h2 => by rw [hw_n h1]; exact o.2.2.2 a h1 h2⟩
theorem tw_x {h0 h : re_H} {s x : Nat} {ws wx : List Value} (o : tw h0 s x ws wx h) (k : Nat) (v : Value) : tw h0 s x ws (wx.set k v) (re_hw h x (10, wx.set k v)) :=
  ⟨o.1, by rw [hw_n (tw_ne o)]; exact o.2.1, hw_s (hg_lt o.2.2.1), fun a h1 h2 => by rw [hw_n h2]; exact o.2.2.2 a h1 h2⟩
section ST
variable {SC : List Value} {d q : Nat} {h : re_H} {Q : Nat → Value → re_H → Prop} {s rb : Nat} {N F : List Nat} {ho la : Nat}
/-- a node is handed out -/
def hnd (h h' : re_H) (s rb : Nat) (N F : List Nat) (ho la x : Nat) (N' F' : List Nat) (nm : Int32) (nu : Int64) (c3 c4 : Value) : Prop :=
  ((F = x :: F' ∧ N' = N ∧ h'.1 = h.1) ∨ (F = [] ∧ x = h.1 ∧ N' = x :: N ∧ F' = [] ∧ h'.1 = h.1 + 1)) ∧ sto h' s rb N' F' (ho + 1) la ∧ (∃ mb, re_hg h' x = some (10, [.null, .int nm, .long nu, c3, c4, .int 0, mb, .null])) ∧ (∀ a, a < h.1 → ¬ a = s → ¬ a = x → re_hg h' a = re_hg h a) ∧ x ∈ N' ∧ ¬ x ∈ F' ∧ ¬ (x ∈ N ∧ ¬ x ∈ F)
theorem c388 {nm : Int32} {nu : Int64} {c3 c4 : Value} (o : sto h s rb N F ho la) (r3 : re_R c3) (r4 : re_R c4) (K : ∀ h' x N' F', hnd h h' s rb N F ho la x N' F' nm nu c3 c4 → Q 3 (.ref x) h') : wp SC 388 (d + 1) q 0 [(0, .ref s), (1, .int nm), (2, .long nu), (4, c3), (5, c4)] [] h Q := by
  have o0 := o
  obtain ⟨⟨vl, vf, e, cN, cF⟩, dN, dF, sub, cells, cnt, low⟩ := o
  -- from 53 on
  have tail : ∀ (h0 h1 : re_H) (x : Nat) (ws wx : List Value), tw h0 s x ws wx h1 → ws.length = 6 → ws[4]? = some (.int (i32 ho)) → wx.length = 8 → (∀ h', tw h0 s x (ws.set 4 (.int (i32 (ho + 1)))) ((((wx.set 1 (.int nm)).set 2 (.long nu)).set 3 c3).set 4 c4) h' → Q 3 (.ref x) h') → wp SC 388 (d + 1) q 53 [(0, .ref s), (1, .int nm), (2, .long nu), (4, c3), (5, c4), (6, .ref x)] [] h1 Q := by
    intro h0 h1 x ws wx t1 hws h4 hwx K'
    refine B388_53 r3 r4 ⟨_, t1.2.1, h4⟩ t1.2.1 (by omega) ?_
    rw [i3_add]
    have t2 := tw_s t1 4 (.int (i32 (ho + 1)))
    refine B388_63 r3 r4 t2.2.2.1 (by omega) ?_
    have t3 := tw_x t2 1 (.int nm)
    refine B388_69 r3 r4 t3.2.2.1 (by simp; omega) ?_
    have t4 := tw_x t3 2 (.long nu)
    refine B388_75 r3 r4 t4.2.2.1 (by simp; omega) ?_
    have t5 := tw_x t4 3 c3
    refine B388_82 r4 t5.2.2.1 (by simp; omega) ?_
    exact B388_89 (K' _ (tw_x t5 4 c4))
  cases F with
  | nil =>
    cases (show vf = .null from cF)
    refine B388_0 r3 r4 (Or.inl rfl) ⟨_, e, rfl⟩ (fun _ => B388_11 r3 r4 ?_) (fun b hb => by cases hb)
    refine B388_14 r3 r4 hq_s rfl (B704_0 (B704_4 (ret0 ?_)))
    refine B388_18 r3 r4 (chn_R cN) ⟨_, hq_k e, rfl⟩ hq_s (by simp) ?_
    have hsl := hg_lt e
    have t0 : tw (re_hq h (10, [.null, .int 0, .long 0, .null, .null, .int 0, .null, .null])) s h.1 [.ref rb, vl, .null, .null, .int (i32 ho), .int (i32 la)] [.null, .int 0, .long 0, .null, .null, .int 0, .null, .null] (re_hq h (10, [.null, .int 0, .long 0, .null, .null, .int 0, .null, .null])) := ⟨rfl, hq_k e, hq_s, fun _ _ _ => rfl⟩
    have t1 := tw_x t0 6 vl
    refine B388_29 r3 r4 t1.2.1 (by simp) (B388_35 r3 r4 ?_)
    have t2 := tw_s t1 1 (.ref h.1)
    refine tail _ _ _ _ _ t2 (by simp) rfl (by simp) (fun h' t3 => K h' h.1 (h.1 :: N) [] ?_)
    have hlt : ∀ x, x ∈ N → x < h.1 := low
    have same : ∀ a, a < h.1 → ¬ a = s → re_hg h' a = re_hg h a := fun a ha h1 => (t3.2.2.2 a h1 (by omega)).trans (hq_o ha)
    have hin : ∀ x, x ∈ N → re_hg h' x = re_hg h x := fun x hx => same x (low x hx) (sto_ne o0 hx e (by omega))
    refine ⟨Or.inr ⟨rfl, rfl, rfl, rfl, t3.1⟩, ⟨⟨.ref h.1, .null, t3.2.1, ⟨rfl, _, vl, t3.2.2.1, rfl, chn_cong (fun x hx w hw => ⟨w, by rw [hin x hx]; exact hw, rfl⟩) cN⟩, rfl⟩, List.nodup_cons.mpr ⟨fun y => Nat.lt_irrefl _ (low _ y), dN⟩, List.nodup_nil, fun x hx => (by cases hx), fun x hx => ?_, by rw [List.length_cons]; simp at cnt ⊢; omega, fun x hx => ?_⟩, ⟨vl, t3.2.2.1⟩, fun a h1 h2 _ => same a h1 h2, List.mem_cons_self, (fun y => (by cases y)), fun y => Nat.lt_irrefl _ (low _ y.1)⟩
    · rcases List.mem_cons.mp hx with rfl | hx
      · exact ⟨_, _, _, _, _, _, _, t3.2.2.1, Or.inl rfl, r3, r4, fun _ => rfl, fun _ => rfl⟩
      · obtain ⟨c0, nm', nu', c3', c4', mb, nx, h1, h2⟩ := cells x hx
        exact ⟨c0, nm', nu', c3', c4', mb, nx, by rw [hin x hx]; exact h1, h2⟩
    · rw [t3.1, hq_1]
      rcases List.mem_cons.mp hx with rfl | hx
      · exact Nat.lt_succ_self _
      · exact Nat.lt_succ_of_lt (low x hx)
  | cons x F =>
    obtain ⟨rfl, w, u, e2, e3, cF'⟩ := cF
    have hxN := sub x List.mem_cons_self
    obtain ⟨c0, nm', nu', c3', c4', mb, nx, g1, g2, g3, g4, g5, g6⟩ := cells x hxN
    rw [e2] at g1
    cases g1
    have hu : nx = u := by simpa using e3
    subst hu
    refine B388_0 r3 r4 (Or.inr ⟨x, rfl⟩) ⟨_, e, rfl⟩ (fun hb => by cases hb) (fun b hb => ?_)
    cases hb
    refine B388_38 r3 r4 (chn_R cF') ⟨_, e2, rfl⟩ e (by simp) ?_
    have t0 : tw h s x [.ref rb, vl, .ref x, .null, .int (i32 ho), .int (i32 la)] [c0, .int nm', .long nu', c3', c4', .int 0, mb, nx] h := ⟨rfl, e, e2, fun _ _ _ => rfl⟩
    have t1 := tw_s t0 2 nx
    refine B388_47 r3 r4 t1.2.2.1 (by simp) ?_
    have t2 := tw_x t1 7 .null
    refine tail _ _ _ _ _ t2 (by simp) rfl (by simp) (fun h' t3 => K h' x N F ?_)
    cases g5 List.mem_cons_self
    have dF' := List.nodup_cons.mp dF
    have hsx : ∀ y, y ∈ N → ¬ y = s := fun y hy => sto_ne o0 hy e (by omega)
    have hin : ∀ y, y ∈ N → ¬ y = x → re_hg h' y = re_hg h y := fun y hy hne => t3.2.2.2 y (hsx y hy) hne
    refine ⟨Or.inl ⟨rfl, rfl, t3.1⟩, ⟨⟨vl, nx, t3.2.1, chn_cong (fun y hy w hw => ?_) cN, chn_cong (fun y hy w hw => ?_) cF'⟩, dN, dF'.2, fun y hy => sub y (List.mem_cons_of_mem _ hy), fun y hy => ?_, by rw [List.length_cons] at cnt; omega, fun y hy => by rw [t3.1]; exact low y hy⟩, ⟨mb, t3.2.2.1⟩, fun a _ h2 h3 => t3.2.2.2 a h2 h3, hxN, dF'.1, fun y => y.2 List.mem_cons_self⟩
    · rcases Nat.decEq y x with hne | rfl
      · exact ⟨w, by rw [hin y hy hne]; exact hw, rfl⟩
      · rw [e2] at hw
        cases hw
        exact ⟨_, t3.2.2.1, rfl⟩
    · have hne : ¬ y = x := fun z => dF'.1 (z ▸ hy)
      exact ⟨w, by rw [hin y (sub y (List.mem_cons_of_mem _ hy)) hne]; exact hw, rfl⟩
    · rcases Nat.decEq y x with hne | rfl
      · obtain ⟨k0, k1, k2, k3, k4, k5, k6, f1, f2, f3, f4, f5, f6⟩ := cells y hy
        exact ⟨k0, k1, k2, k3, k4, k5, k6, by rw [hin y hy hne]; exact f1, f2, f3, f4, fun z => f5 (List.mem_cons_of_mem _ z), fun z => f6 (fun z2 => (List.mem_cons.mp z2).elim hne z)⟩
      · exact ⟨_, _, _, _, _, _, _, t3.2.2.1, Or.inl rfl, r3, r4, fun _ => rfl, fun _ => rfl⟩
end ST
