/-! The abstract heap and the machine's: kinds below 100 are objects of that class of the list of classes, kind 100 + j an array of elements E j. -/
abbrev re_C : Type := Nat × List Value
/-- a tree of depth n: 2 ^ n places -/
def re_T : Nat → Type
  | 0 => Option re_C
  | n + 1 => re_T n × re_T n
def re_te : (n : Nat) → re_T n
  | 0 => (none : Option re_C)
  | n + 1 => (re_te n, re_te n)
def re_tg : (n : Nat) → re_T n → Nat → Option re_C
  | 0, t, _ => t
  | n + 1, t, i => bif Nat.blt i (2 ^ n) then re_tg n t.1 i else re_tg n t.2 (i - 2 ^ n)
def re_ts : (n : Nat) → re_T n → Nat → re_C → re_T n
  | 0, _, _, c => (some c : Option re_C)
  | n + 1, t, i, c => bif Nat.blt i (2 ^ n) then (re_ts n t.1 i c, t.2) else (t.1, re_ts n t.2 (i - 2 ^ n) c)
theorem re_blt_t {a b : Nat} (h : a < b) : Nat.blt a b = true := Nat.ble_eq_true_of_le h
theorem re_blt_f {a b : Nat} (h : b ≤ a) : Nat.blt a b = false := by
  cases hz : Nat.blt a b with
  | false => rfl
  | true => exact absurd (Nat.le_of_ble_eq_true hz) (by omega)
theorem re_tg_self (c : re_C) : ∀ (n : Nat) (t : re_T n) (i : Nat), re_tg n (re_ts n t i c) i = some c
  | 0, _, _ => rfl
  | n + 1, t, i => by
    show (bif Nat.blt i (2 ^ n) then re_tg n (re_ts (n + 1) t i c).1 i else re_tg n (re_ts (n + 1) t i c).2 (i - 2 ^ n)) = some c
    rcases Nat.lt_or_ge i (2 ^ n) with h | h
    · have e : re_ts (n + 1) t i c = (re_ts n t.1 i c, t.2) := by show (bif Nat.blt i (2 ^ n) then _ else _) = _; rw [re_blt_t h]; rfl
      rw [re_blt_t h, e]
      exact re_tg_self c n t.1 i
    · have e : re_ts (n + 1) t i c = (t.1, re_ts n t.2 (i - 2 ^ n) c) := by show (bif Nat.blt i (2 ^ n) then _ else _) = _; rw [re_blt_f h]; rfl
      rw [re_blt_f h, e]
      exact re_tg_self c n t.2 (i - 2 ^ n)
theorem re_tg_ne (c : re_C) : ∀ (n : Nat) (t : re_T n) (i j : Nat), i < 2 ^ n → j < 2 ^ n → ¬ i = j → re_tg n (re_ts n t i c) j = re_tg n t j
  | 0, _, i, j, hi, hj, hne => absurd (show i = j by simp at hi hj; omega) hne
  | n + 1, t, i, j, hi, hj, hne => by
    have h2 : 2 ^ (n + 1) = 2 ^ n + 2 ^ n := by rw [Nat.pow_succ]; omega
    show (bif Nat.blt j (2 ^ n) then re_tg n (re_ts (n + 1) t i c).1 j else re_tg n (re_ts (n + 1) t i c).2 (j - 2 ^ n)) = (bif Nat.blt j (2 ^ n) then re_tg n t.1 j else re_tg n t.2 (j - 2 ^ n))
    rcases Nat.lt_or_ge i (2 ^ n) with h | h
    · have e : re_ts (n + 1) t i c = (re_ts n t.1 i c, t.2) := by show (bif Nat.blt i (2 ^ n) then _ else _) = _; rw [re_blt_t h]; rfl
      rw [e]
      rcases Nat.lt_or_ge j (2 ^ n) with g | g
      · rw [re_blt_t g]
        exact re_tg_ne c n t.1 i j h g hne
      · rw [re_blt_f g]
        rfl
    · have e : re_ts (n + 1) t i c = (t.1, re_ts n t.2 (i - 2 ^ n) c) := by show (bif Nat.blt i (2 ^ n) then _ else _) = _; rw [re_blt_f h]; rfl
      rw [e]
      rcases Nat.lt_or_ge j (2 ^ n) with g | g
      · rw [re_blt_t g]
        rfl
      · rw [re_blt_f g]
        exact re_tg_ne c n t.2 (i - 2 ^ n) (j - 2 ^ n) (by omega) (by omega) (by omega)
/-- a heap: how many cells; the first 1024 in a tree, the others told by a function -/
abbrev re_H : Type := Nat × re_T 10 × (Nat → Option re_C)
def re_h0 : re_H := (0, re_te 10, fun _ => none)
def re_hf9 (t : re_T 10 × (Nat → Option re_C)) (i : Nat) : Option re_C := bif Nat.blt i 1024 then re_tg 10 t.1 i else t.2 i
def re_hu9 (t : re_T 10 × (Nat → Option re_C)) (i : Nat) (c : re_C) : re_T 10 × (Nat → Option re_C) := bif Nat.blt i 1024 then (re_ts 10 t.1 i c, t.2) else (t.1, fun j => if j = i then some c else t.2 j)
def re_hg (h : re_H) (i : Nat) : Option re_C := bif Nat.blt i h.1 then re_hf9 h.2 i else none
def re_hw (h : re_H) (i : Nat) (c : re_C) : re_H := (h.1, re_hu9 h.2 i c)
def re_hq (h : re_H) (c : re_C) : re_H := (h.1 + 1, re_hu9 h.2 h.1 c)
theorem re_hfu_self (t : re_T 10 × (Nat → Option re_C)) (i : Nat) (c : re_C) : re_hf9 (re_hu9 t i c) i = some c := by
  unfold re_hf9 re_hu9
  rcases Nat.lt_or_ge i 1024 with h | h
  · rw [re_blt_t h]
    exact re_tg_self c 10 t.1 i
  · rw [re_blt_f h]
    show (if i = i then some c else t.2 i) = some c
    rw [if_pos rfl]
theorem re_hfu_ne (t : re_T 10 × (Nat → Option re_C)) (i j : Nat) (c : re_C) (hne : ¬ i = j) : re_hf9 (re_hu9 t i c) j = re_hf9 t j := by
  unfold re_hf9 re_hu9
  rcases Nat.lt_or_ge i 1024 with h | h
  · rw [re_blt_t h]
    rcases Nat.lt_or_ge j 1024 with g | g
    · rw [re_blt_t g]
      exact re_tg_ne c 10 t.1 i j h g hne
    · rw [re_blt_f g]
      rfl
  · rw [re_blt_f h]
    rcases Nat.lt_or_ge j 1024 with g | g
    · rw [re_blt_t g]
      rfl
    · rw [re_blt_f g]
      show (if j = i then some c else t.2 j) = t.2 j
      rw [if_neg (fun z => hne z.symm)]
theorem re_hg_lt {h : re_H} {i : Nat} {c : re_C} (hi : re_hg h i = some c) : i < h.1 ∧ re_hf9 h.2 i = some c := by
  unfold re_hg at hi
  cases hb : Nat.blt i h.1 with
  | true => rw [hb] at hi; exact ⟨Nat.le_of_ble_eq_true hb, hi⟩
  | false => rw [hb] at hi; cases hi
theorem re_hg_of {h : re_H} {i : Nat} (hi : i < h.1) : re_hg h i = re_hf9 h.2 i := by
  unfold re_hg
  rw [re_blt_t hi]
  rfl
def re_rA (V : re_V) (ad : List Nat) (t : FieldType) (vs : List Value) (x : (Nat → Int32) ⊕ (Nat → Int64) ⊕ (Nat → UInt32) ⊕ (Nat → UInt64) ⊕ (Nat → Option Nat)) : Prop := match t with
  | .int => ∃ f, x = .inl f ∧ ∀ (i : Nat) (v : Value), vs[i]? = some v → re_rv V ad v (.int (f i))
  | .boolean => ∃ f, x = .inl f ∧ ∀ (i : Nat) (v : Value), vs[i]? = some v → re_rv V ad v (.int (f i))
  | .long => ∃ f, x = .inr (.inl f) ∧ ∀ (i : Nat) (v : Value), vs[i]? = some v → re_rv V ad v (.long (f i))
  | .object _ => ∃ f, x = .inr (.inr (.inr (.inr f))) ∧ ∀ (i : Nat) (v : Value), vs[i]? = some v → re_rv V ad v (va_rf (f i))
  | _ => False
def re_rE (V : re_V) (E : Nat → FieldType) (cA : Nat → ClassId) (ad : List Nat) (c : re_C) (e : va_E) : Prop :=
  (c.1 < 100 ∧ ∃ fs, e = .inr (c.1, fs) ∧ re_rs V ad c.2 fs) ∨ ∃ (j : Nat) (x : _), c.1 = 100 + j ∧ e = .inl (cA j, c.2.length, x) ∧ re_rA V ad (E j) c.2 x
def re_rW (V : re_V) (E : Nat → FieldType) (cA : Nat → ClassId) (ad : List Nat) (h : re_H) (ws : va_W) : Prop :=
  ad.length = h.1 ∧ ws.length = h.1 ∧ (∀ (i : Nat) (c : re_C), re_hg h i = some c → ∃ a e, ad[i]? = some a ∧ ws[i]? = some (a, e) ∧ re_rE V E cA ad c e) ∧ True ∧ ∀ (i a : Nat), ad[i]? = some a → ∃ e, ws[i]? = some (a, e)
section REV
variable {V : re_V}
/-- more cells: what was stands -/
theorem re_rv_up {ad : List Nat} (q : List Nat) {v w : Value} (h : re_rv V ad v w) : re_rv V (ad ++ q) v w := by
  cases v <;> simp only [re_rv] at h ⊢
  case ref i =>
    obtain ⟨a, h1, h2⟩ := h
    refine ⟨a, ?_, h2⟩
    rw [List.getElem?_append_left (by exact (List.getElem?_eq_some_iff.mp h1).1)]
    exact h1
  all_goals exact h
theorem re_rs_up {ad : List Nat} (q : List Nat) : ∀ {vs ws : List Value}, re_rs V ad vs ws → re_rs V (ad ++ q) vs ws
  | [], [], _ => trivial
  | [], _ :: _, h => absurd h id
  | _ :: _, [], h => absurd h id
  | _ :: _, _ :: _, h => ⟨re_rv_up q h.1, re_rs_up q h.2⟩
theorem re_rl_up {ad : List Nat} (q : List Nat) {vs ws : List (Nat × Value)} (h : re_rl V ad vs ws) : re_rl V (ad ++ q) vs ws := fun i v hv => by
  obtain ⟨k, w, h1, h2⟩ := h i v hv
  exact ⟨k, w, h1, re_rv_up q h2⟩
theorem re_rA_up {ad : List Nat} (q : List Nat) {t : FieldType} {vs : List Value} {x} (h : re_rA V ad t vs x) : re_rA V (ad ++ q) t vs x := by
  cases t <;> simp only [re_rA] at h ⊢
  all_goals first | exact h | (obtain ⟨f, h1, h2⟩ := h; exact ⟨f, h1, fun i v hv => re_rv_up q (h2 i v hv)⟩)
theorem re_rE_up {E : Nat → FieldType} {cA : Nat → ClassId} {ad : List Nat} (q : List Nat) {c : re_C} {e : va_E} (h : re_rE V E cA ad c e) : re_rE V E cA (ad ++ q) c e := by
  rcases h with ⟨h1, fs, h2, h3⟩ | ⟨j, x, h1, h2, h3⟩
  · exact Or.inl ⟨h1, fs, h2, re_rs_up q h3⟩
  · exact Or.inr ⟨j, x, h1, h2, re_rA_up q h3⟩
theorem re_rs_len {ad : List Nat} : ∀ {vs ws : List Value}, re_rs V ad vs ws → ws.length = vs.length
  | [], [], _ => rfl
  | [], _ :: _, h => absurd h id
  | _ :: _, [], h => absurd h id
  | _ :: _, _ :: _, h => by rw [List.length_cons, List.length_cons, re_rs_len h.2]
theorem re_rs_get {ad : List Nat} : ∀ {vs ws : List Value} {k : Nat} {v : Value}, re_rs V ad vs ws → vs[k]? = some v → ∃ w, ws[k]? = some w ∧ re_rv V ad v w
  | [], _, k, v, _, h => by simp at h
  | _ :: _, [], _, _, h, _ => absurd h id
  | x :: vs, y :: ws, 0, v, h, hv => ⟨y, rfl, by cases (show some x = some v from hv); exact h.1⟩
  | x :: vs, y :: ws, k + 1, v, h, hv => re_rs_get (vs := vs) (ws := ws) (k := k) h.2 (by simpa using hv)
theorem re_rs_set {ad : List Nat} {v w : Value} (hv : re_rv V ad v w) : ∀ {vs ws : List Value} (k : Nat), re_rs V ad vs ws → re_rs V ad (vs.set k v) (ws.set k w)
  | [], [], _, _ => trivial
  | [], _ :: _, _, h => absurd h id
  | _ :: _, [], _, h => absurd h id
  | _ :: _, _ :: _, 0, h => ⟨hv, h.2⟩
  | _ :: _, _ :: _, k + 1, h => ⟨h.1, re_rs_set hv k h.2⟩
theorem re_rs_rep {ad : List Nat} {v w : Value} (hv : re_rv V ad v w) : ∀ n : Nat, re_rs V ad (List.replicate n v) (List.replicate n w)
  | 0 => trivial
  | n + 1 => ⟨hv, re_rs_rep hv n⟩
theorem re_rs_app {ad : List Nat} : ∀ {v1 w1 v2 w2 : List Value}, re_rs V ad v1 w1 → re_rs V ad v2 w2 → re_rs V ad (v1 ++ v2) (w1 ++ w2)
  | [], [], _, _, _, h => h
  | [], _ :: _, _, _, h, _ => absurd h id
  | _ :: _, [], _, _, h, _ => absurd h id
  | _ :: _, _ :: _, _, _, h, h2 => ⟨h.1, re_rs_app h.2 h2⟩
theorem re_rW_set {E : Nat → FieldType} {cA : Nat → ClassId} {ad : List Nat} {h : re_H} {ws : va_W} {i a : Nat} {c : re_C} {e : va_E} (hW : re_rW V E cA ad h ws) (ha : ad[i]? = some a) (he : re_rE V E cA ad c e) : re_rW V E cA ad (re_hw h i c) (ws.set i (a, e)) := by
  obtain ⟨w1, w2, w3, w4, w5⟩ := hW
  have hil : i < h.1 := by rw [← w1]; exact (List.getElem?_eq_some_iff.mp ha).1
  refine ⟨w1, by rw [List.length_set]; exact w2, fun k d hk => ?_, w4, fun k b hb => ?_⟩
  · obtain ⟨hkl, hkt⟩ := re_hg_lt hk
    have hkl : k < h.1 := hkl
    have hkt : re_hf9 (re_hu9 h.2 i c) k = some d := hkt
    rcases Nat.decEq i k with hne | rfl
    · rw [re_hfu_ne h.2 i k c hne] at hkt
      rw [List.getElem?_set_ne hne]
      exact w3 k d (by rw [re_hg_of hkl]; exact hkt)
    · rw [re_hfu_self] at hkt
      cases hkt
      exact ⟨a, e, ha, by rw [List.getElem?_set_self (by omega)], he⟩
  · rcases Nat.decEq i k with hne | rfl
    · rw [List.getElem?_set_ne hne]
      exact w5 k b hb
    · cases ha.symm.trans hb
      exact ⟨e, by rw [List.getElem?_set_self (by omega)]⟩
theorem re_rW_push {E : Nat → FieldType} {cA : Nat → ClassId} {ad : List Nat} {h : re_H} {ws : va_W} {q : Nat} {c : re_C} {e : va_E} (hW : re_rW V E cA ad h ws) (he : re_rE V E cA (ad ++ [q]) c e) : re_rW V E cA (ad ++ [q]) (re_hq h c) (ws ++ [(q, e)]) := by
  obtain ⟨w1, w2, w3, w4, w5⟩ := hW
  refine ⟨by simp [w1, re_hq], by simp [w2, re_hq], fun k d hk => ?_, trivial, fun k b hb => ?_⟩
  · obtain ⟨hkl, hkt⟩ := re_hg_lt hk
    have hkl : k < h.1 + 1 := hkl
    have hkt : re_hf9 (re_hu9 h.2 h.1 c) k = some d := hkt
    rcases Nat.decEq h.1 k with hne | rfl
    · rw [re_hfu_ne h.2 h.1 k c hne] at hkt
      obtain ⟨a, e', k1, k2, k3⟩ := w3 k d (by rw [re_hg_of (by omega)]; exact hkt)
      exact ⟨a, e', by rw [List.getElem?_append_left (by omega)]; exact k1, by rw [List.getElem?_append_left (by omega)]; exact k2, re_rE_up [q] k3⟩
    · rw [re_hfu_self] at hkt
      cases hkt
      exact ⟨q, e, by rw [List.getElem?_append_right (by omega), show h.1 - ad.length = 0 by omega]; rfl, by rw [List.getElem?_append_right (by omega), show h.1 - ws.length = 0 by omega]; rfl, he⟩
  · rcases Nat.lt_or_ge k ad.length with hlt | hge
    · rw [List.getElem?_append_left hlt] at hb
      rw [List.getElem?_append_left (by omega)]
      exact w5 k b hb
    · rw [List.getElem?_append_right hge] at hb
      have hk0 : k - ad.length = 0 := by
        have := (List.getElem?_eq_some_iff.mp hb).1
        simp at this
        omega
      rw [hk0] at hb
      cases hb
      exact ⟨e, by rw [List.getElem?_append_right (by omega), show k - ws.length = 0 by omega]; rfl⟩
theorem re_rE_obj {E : Nat → FieldType} {cA : Nat → ClassId} {ad : List Nat} {ci : Nat} {vs : List Value} {e : va_E} (h : re_rE V E cA ad (ci, vs) e) (hc : ci < 100) : ∃ fs, e = .inr (ci, fs) ∧ re_rs V ad vs fs := by
  rcases h with ⟨_, h2⟩ | ⟨j, x, h1, _⟩
  · exact h2
  · exact absurd h1 (by show ¬ ci = 100 + j; omega)
theorem re_rE_arr {E : Nat → FieldType} {cA : Nat → ClassId} {ad : List Nat} {j : Nat} {vs : List Value} {e : va_E} (h : re_rE V E cA ad (100 + j, vs) e) : ∃ x, e = .inl (cA j, vs.length, x) ∧ re_rA V ad (E j) vs x := by
  rcases h with ⟨h1, _⟩ | ⟨j', x, h1, h2, h3⟩
  · exact absurd h1 (by show ¬ 100 + j < 100; omega)
  · have : j' = j := by have h1 : 100 + j = 100 + j' := h1; omega
    subst this
    exact ⟨x, h2, h3⟩
theorem re_set_i {ad : List Nat} {vs : List Value} {f : Nat → Int32} (hf : ∀ (i : Nat) (v : Value), vs[i]? = some v → re_rv V ad v (.int (f i))) (n : Nat) {v0 : Value} {x : Int32} (h0 : re_rv V ad v0 (.int x)) : ∀ (i : Nat) (v : Value), (vs.set n v0)[i]? = some v → re_rv V ad v (.int (upd f n x i)) := by
  intro i v hv
  unfold upd
  rcases Nat.decEq n i with hne | rfl
  · rw [List.getElem?_set_ne hne] at hv
    rw [if_neg (fun z => hne z.symm)]
    exact hf i v hv
  · rw [if_pos rfl]
    have hlt : n < vs.length := by
      have := (List.getElem?_eq_some_iff.mp hv).1
      rwa [List.length_set] at this
    rw [List.getElem?_set_self hlt] at hv
    cases hv
    exact h0
theorem re_set_l {ad : List Nat} {vs : List Value} {f : Nat → Int64} (hf : ∀ (i : Nat) (v : Value), vs[i]? = some v → re_rv V ad v (.long (f i))) (n : Nat) {v0 : Value} {x : Int64} (h0 : re_rv V ad v0 (.long x)) : ∀ (i : Nat) (v : Value), (vs.set n v0)[i]? = some v → re_rv V ad v (.long (vp_updL f n x i)) := by
  intro i v hv
  unfold vp_updL
  rcases Nat.decEq n i with hne | rfl
  · rw [List.getElem?_set_ne hne] at hv
    rw [if_neg (fun z => hne z.symm)]
    exact hf i v hv
  · rw [if_pos rfl]
    have hlt : n < vs.length := by
      have := (List.getElem?_eq_some_iff.mp hv).1
      rwa [List.length_set] at this
    rw [List.getElem?_set_self hlt] at hv
    cases hv
    exact h0
theorem re_set_q {ad : List Nat} {vs : List Value} {f : Nat → Option Nat} (hf : ∀ (i : Nat) (v : Value), vs[i]? = some v → re_rv V ad v (va_rf (f i))) (n : Nat) {v0 : Value} {x : Option Nat} (h0 : re_rv V ad v0 (va_rf x)) : ∀ (i : Nat) (v : Value), (vs.set n v0)[i]? = some v → re_rv V ad v (va_rf (va_up f n x i)) := by
  intro i v hv
  unfold va_up
  rcases Nat.decEq n i with hne | rfl
  · rw [List.getElem?_set_ne hne] at hv
    rw [if_neg (fun z => hne z.symm)]
    exact hf i v hv
  · rw [if_pos rfl]
    have hlt : n < vs.length := by
      have := (List.getElem?_eq_some_iff.mp hv).1
      rwa [List.length_set] at this
    rw [List.getElem?_set_self hlt] at hv
    cases hv
    exact h0
end REV
