/-! Expr: the constructor. -/
/-- an object under construction -/
def nb_ob (h : re_H) (a0 t : Nat) (w1 : List Value) (h1 : re_H) : Prop := h1.1 = h.1 ∧ re_hg h1 a0 = some (t, w1) ∧ ∀ x, ¬ x = a0 → re_hg h1 x = re_hg h x
theorem ob_set {h : re_H} {a0 t : Nat} {w1 : List Value} {h1 : re_H} (o : nb_ob h a0 t w1 h1) (k : Nat) (v : Value) : nb_ob h a0 t (w1.set k v) (re_hw h1 a0 (t, w1.set k v)) :=
  ⟨o.1, hw_s (hg_lt o.2.1), fun x hx => by rw [hw_n hx]; exact o.2.2 x hx⟩
/-- what a part tells -/
def nb_pt (h : re_H) (a0 : Nat) (a : Tr) (va : Value) : Prop := (va = .null ∧ a = .leaf) ∨ ∃ x : Nat, va = .ref x ∧ ¬ x = a0 ∧ nb_fd h x 9 6 (.int (i32 (pts a))) ∧ nb_fd h x 9 7 (.int (i32 (fre a))) ∧ nb_fd h x 9 8 (.int (i32 (men a))) ∧ nb_fd h x 9 9 (.int (i32 (inps a))) ∧ nb_fd h x 9 10 (.int (ib (drw a)))
theorem pt_R {h : re_H} {a0 : Nat} {a : Tr} {va : Value} (p : nb_pt h a0 a va) : re_R va := p.elim (fun z => Or.inl z.1) (fun ⟨x, z, _⟩ => Or.inr ⟨x, z⟩)
theorem pt_ob {h h1 : re_H} {a0 t : Nat} {w1 : List Value} {a : Tr} {va : Value} (p : nb_pt h a0 a va) (o : nb_ob h a0 t w1 h1) : nb_pt h1 a0 a va := by
  rcases p with z | ⟨x, h2, h3, h4⟩
  · exact Or.inl z
  · refine Or.inr ⟨x, h2, h3, ?_⟩
    unfold nb_fd at h4 ⊢
    rw [o.2.2 x h3]
    exact h4
theorem pt_of {h0 h : re_H} {a0 : Nat} {a : Tr} {va : Value} (hk : ∀ x, x < h0.1 → re_hg h x = re_hg h0 x) (ha : h0.1 ≤ a0) (z : ex h0 a va) : nb_pt h a0 a va := by
  rcases ex_R z with rfl | ⟨x, rfl⟩
  · exact Or.inl ⟨rfl, ex_null z⟩
  · obtain ⟨h1, h2⟩ := ex_fd z
    have hx : x < h0.1 := by obtain ⟨w, h3, -⟩ := h1; exact hg_lt h3
    have hne : ¬ x = a0 := by omega
    refine Or.inr ⟨x, rfl, hne, ?_⟩
    unfold nb_fd at h1 h2 ⊢
    rw [hk x hx]
    exact ⟨h1, h2⟩
set_option maxHeartbeats 1000000 in
theorem c640 {SC : List Value} {d q : Nat} {h : re_H} {Q : Nat → Value → re_H → Prop} {a0 : Nat} {w0 : List Value} (e0 : re_hg h a0 = some (9, w0)) (hl : w0.length = 11) {s w : Nat} (hs : s < 9) (hw : w < 16) {n : Int64} {a b c : Tr} {va vb vc : Value}
    (pa : nb_pt h a0 a va) (pb : nb_pt h a0 b vb) (pc : nb_pt h a0 c vc)
    (K : ∀ h', nb_ob h a0 9 (nb_ec s w n va vb vc (tE s w n a b c)).2 h' → Q 0 .null h') :
    wp SC 640 d q 0 [(0, .ref a0), (1, .int (i32 s)), (2, .int (i32 w)), (3, .long n), (5, va), (6, vb), (7, vc)] [] h Q := by
  have ra := pt_R pa
  have rb := pt_R pb
  have rc := pt_R pc
  have se : ∀ k : Nat, k < 9 → (i32 s = i32 k ↔ s = k) := fun k hk => i3_eq (by omega) (by omega)
  -- the diamonds over the parts
  have k365 : ∀ (h1 : re_H) (w1 : List Value) (z : Bool), nb_ob h a0 9 w1 h1 → w1.length = 11 → w1.set 10 (.int (ib z)) = (nb_ec s w n va vb vc (tE s w n a b c)).2 → wp SC 640 d q 365 [] [.int (ib z), .ref a0] h1 Q := fun h1 w1 z o hl e =>
    B640_365 o.2.1 (by omega) (ib_01 z) (B640_368 (K _ (by rw [← e]; exact ob_set o 10 _)))
  have k347 : ∀ (h1 : re_H) (w1 : List Value), nb_ob h a0 9 w1 h1 → w1.length = 11 → w1.set 10 (.int (ib (drw (tE s w n a b c)))) = (nb_ec s w n va vb vc (tE s w n a b c)).2 → (drw (tE s w n a b c) = drw c) → wp SC 640 d q 347 [(7, vc)] [.ref a0] h1 Q := fun h1 w1 o hl e he => by
    rcases pt_ob pc o with ⟨rfl, rfl⟩ | ⟨x, rfl, -, -, -, -, -, f⟩
    · exact B640_347 (Or.inl rfl) (fun _ => B640_364 (k365 h1 w1 false o hl (by rw [he] at e; exact e))) (fun b hb => by cases hb)
    · refine B640_347 (Or.inr ⟨x, rfl⟩) (fun hb => by cases hb) (fun b hb => ?_)
      cases hb
      refine B640_352 f (fun z => B640_364 (k365 h1 w1 false o hl ?_)) (fun z => B640_360 (k365 h1 w1 true o hl ?_))
      · rw [← e, he, ib_0.mp z]
      · rw [← e, he, show drw c = true from by cases hd : drw c with | true => rfl | false => exact absurd (ib_0.mpr hd) z]
  have k334 : ∀ (h1 : re_H) (w1 : List Value), nb_ob h a0 9 w1 h1 → w1.length = 11 → w1.set 10 (.int (ib (drw (tE s w n a b c)))) = (nb_ec s w n va vb vc (tE s w n a b c)).2 → (drw (tE s w n a b c) = (drw b || drw c)) → wp SC 640 d q 334 [(6, vb), (7, vc)] [.ref a0] h1 Q := fun h1 w1 o hl e he => by
    rcases pt_ob pb o with ⟨rfl, rfl⟩ | ⟨x, rfl, -, -, -, -, -, f⟩
    · exact B640_334 (Or.inl rfl) rc (fun _ => k347 h1 w1 o hl e he) (fun b hb => by cases hb)
    · refine B640_334 (Or.inr ⟨x, rfl⟩) rc (fun hb => by cases hb) (fun b hb => ?_)
      cases hb
      refine B640_339 rc f (fun z => B640_360 (k365 h1 w1 true o hl ?_)) (fun z => k347 h1 w1 o hl e (by rw [he, ib_0.mp z]; rfl))
      rw [← e, he, show drw b = true from by cases hd : drw b with | true => rfl | false => exact absurd (ib_0.mpr hd) z]; rfl
  have k321 : ∀ (h1 : re_H) (w1 : List Value), nb_ob h a0 9 w1 h1 → w1.length = 11 → w1.set 10 (.int (ib (drw (tE s w n a b c)))) = (nb_ec s w n va vb vc (tE s w n a b c)).2 → (drw (tE s w n a b c) = (drw a || drw b || drw c)) → wp SC 640 d q 321 [(5, va), (6, vb), (7, vc)] [.ref a0] h1 Q := fun h1 w1 o hl e he => by
    rcases pt_ob pa o with ⟨rfl, rfl⟩ | ⟨x, rfl, -, -, -, -, -, f⟩
    · exact B640_321 (Or.inl rfl) rb rc (fun _ => k334 h1 w1 o hl e he) (fun b hb => by cases hb)
    · refine B640_321 (Or.inr ⟨x, rfl⟩) rb rc (fun hb => by cases hb) (fun b hb => ?_)
      cases hb
      refine B640_326 rb rc f (fun z => B640_360 (k365 h1 w1 true o hl ?_)) (fun z => k334 h1 w1 o hl e (by rw [he, ib_0.mp z]; rfl))
      rw [← e, he, show drw a = true from by cases hd : drw a with | true => rfl | false => exact absurd (ib_0.mpr hd) z]; rfl
  have k315 : ∀ (h1 : re_H) (w1 : List Value), nb_ob h a0 9 w1 h1 → w1.length = 11 → w1.set 10 (.int (ib (drw (tE s w n a b c)))) = (nb_ec s w n va vb vc (tE s w n a b c)).2 → wp SC 640 d q 315 [(0, .ref a0), (1, .int (i32 s)), (5, va), (6, vb), (7, vc)] [] h1 Q := fun h1 w1 o hl e => by
    refine B640_315 ra rb rc (fun z => B640_360 (k365 h1 w1 true o hl ?_)) (fun z => k321 h1 w1 o hl e ?_)
    · rw [← e, drw_E, show decide (s = 3) = true from decide_eq_true ((se 3 (by omega)).mp z)]; rfl
    · rw [drw_E, show decide (s = 3) = false from decide_eq_false (fun y => z ((se 3 (by omega)).mpr y))]; rfl
  have d86 : ∀ (h1 : re_H) (w1 : List Value) (x9 x10 : Int32), nb_ob h a0 9 w1 h1 → wp SC 640 d q 104 [(0, .ref a0), (1, .int (i32 s)), (2, .int (i32 w)), (5, va), (6, vb), (7, vc), (9, .int x9), (10, .int x10)] [.int (i32 (pts a)), .int (i32 1), .ref a0] h1 Q → wp SC 640 d q 86 [(0, .ref a0), (1, .int (i32 s)), (2, .int (i32 w)), (5, va), (6, vb), (7, vc), (9, .int x9)] [.int x10] h1 Q := fun h1 w1 x9 x10 o k => by
    rcases pt_ob pa o with ⟨rfl, rfl⟩ | ⟨x, rfl, -, f, -, -, -, -⟩
    · exact B640_86 (Or.inl rfl) rb rc (fun _ => B640_95 (Or.inl rfl) rb rc k) (fun b hb => by cases hb)
    · refine B640_86 (Or.inr ⟨x, rfl⟩) rb rc (fun hb => by cases hb) (fun b hb => ?_)
      cases hb
      exact B640_99 rb rc f k
  have d104 : ∀ (h1 : re_H) (w1 : List Value) (x9 x10 y0 y1 : Int32), nb_ob h a0 9 w1 h1 → wp SC 640 d q 119 [(0, .ref a0), (1, .int (i32 s)), (2, .int (i32 w)), (5, va), (6, vb), (7, vc), (9, .int x9), (10, .int x10)] [.int (i32 (pts b)), .int (y1 + y0), .ref a0] h1 Q → wp SC 640 d q 104 [(0, .ref a0), (1, .int (i32 s)), (2, .int (i32 w)), (5, va), (6, vb), (7, vc), (9, .int x9), (10, .int x10)] [.int y0, .int y1, .ref a0] h1 Q := fun h1 w1 x9 x10 y0 y1 o k => by
    rcases pt_ob pb o with ⟨rfl, rfl⟩ | ⟨x, rfl, -, f, -, -, -, -⟩
    · exact B640_104 ra (Or.inl rfl) rc (fun _ => B640_110 ra (Or.inl rfl) rc k) (fun b hb => by cases hb)
    · refine B640_104 ra (Or.inr ⟨x, rfl⟩) rc (fun hb => by cases hb) (fun b hb => ?_)
      cases hb
      exact B640_114 ra rc f k
  have d119 : ∀ (h1 : re_H) (w1 : List Value) (x9 x10 y0 y1 : Int32), nb_ob h a0 9 w1 h1 → wp SC 640 d q 134 [(0, .ref a0), (1, .int (i32 s)), (2, .int (i32 w)), (5, va), (6, vb), (7, vc), (9, .int x9), (10, .int x10)] [.int (i32 (pts c)), .int (y1 + y0), .ref a0] h1 Q → wp SC 640 d q 119 [(0, .ref a0), (1, .int (i32 s)), (2, .int (i32 w)), (5, va), (6, vb), (7, vc), (9, .int x9), (10, .int x10)] [.int y0, .int y1, .ref a0] h1 Q := fun h1 w1 x9 x10 y0 y1 o k => by
    rcases pt_ob pc o with ⟨rfl, rfl⟩ | ⟨x, rfl, -, f, -, -, -, -⟩
    · exact B640_119 ra rb (Or.inl rfl) (fun _ => B640_125 ra rb (Or.inl rfl) k) (fun b hb => by cases hb)
    · refine B640_119 ra rb (Or.inr ⟨x, rfl⟩) (fun hb => by cases hb) (fun b hb => ?_)
      cases hb
      exact B640_129 ra rb f k
  have d150 : ∀ (h1 : re_H) (w1 : List Value) (x9 x10 y0 : Int32), nb_ob h a0 9 w1 h1 → wp SC 640 d q 164 [(0, .ref a0), (1, .int (i32 s)), (2, .int (i32 w)), (5, va), (6, vb), (7, vc), (9, .int x9), (10, .int x10)] [.int (i32 (fre a)), .int y0, .ref a0] h1 Q → wp SC 640 d q 150 [(0, .ref a0), (1, .int (i32 s)), (2, .int (i32 w)), (5, va), (6, vb), (7, vc), (9, .int x9), (10, .int x10)] [.int y0, .ref a0] h1 Q := fun h1 w1 x9 x10 y0 o k => by
    rcases pt_ob pa o with ⟨rfl, rfl⟩ | ⟨x, rfl, -, -, f, -, -, -⟩
    · exact B640_150 (Or.inl rfl) rb rc (fun _ => B640_155 (Or.inl rfl) rb rc k) (fun b hb => by cases hb)
    · refine B640_150 (Or.inr ⟨x, rfl⟩) rb rc (fun hb => by cases hb) (fun b hb => ?_)
      cases hb
      exact B640_159 rb rc f k
  have d164 : ∀ (h1 : re_H) (w1 : List Value) (x9 y0 y1 : Int32) (bd : Nat), nb_ob h a0 9 w1 h1 → wp SC 640 d q 184 [(0, .ref a0), (1, .int (i32 s)), (2, .int (i32 w)), (5, va), (6, vb), (7, vc), (9, .int x9)] [.int (i32 (nb_wo (fre b) bd)), .int (y1 ||| y0), .ref a0] h1 Q → wp SC 640 d q 164 [(0, .ref a0), (1, .int (i32 s)), (2, .int (i32 w)), (5, va), (6, vb), (7, vc), (9, .int x9), (10, .int (i32 bd))] [.int y0, .int y1, .ref a0] h1 Q := fun h1 w1 x9 y0 y1 bd o k => by
    rcases pt_ob pb o with ⟨rfl, rfl⟩ | ⟨x, rfl, -, -, f, -, -, -⟩
    · refine B640_164 ra (Or.inl rfl) rc (fun _ => B640_170 ra (Or.inl rfl) rc ?_) (fun b hb => by cases hb)
      rw [show nb_wo (fre Std.DTreeMap.Internal.Impl.leaf) bd = 0 from by show 0 ^^^ (0 &&& bd) = 0; simp] at k
      exact k
    · refine B640_164 ra (Or.inr ⟨x, rfl⟩) rc (fun hb => by cases hb) (fun b hb => ?_)
      cases hb
      refine B640_174 ra rc f ?_
      rw [i3_wo]
      exact k
  have d184 : ∀ (h1 : re_H) (w1 : List Value) (x9 y0 y1 : Int32), nb_ob h a0 9 w1 h1 → wp SC 640 d q 199 [(0, .ref a0), (1, .int (i32 s)), (2, .int (i32 w)), (5, va), (6, vb), (7, vc), (9, .int x9)] [.int (i32 (fre c)), .int (y1 ||| y0), .ref a0] h1 Q → wp SC 640 d q 184 [(0, .ref a0), (1, .int (i32 s)), (2, .int (i32 w)), (5, va), (6, vb), (7, vc), (9, .int x9)] [.int y0, .int y1, .ref a0] h1 Q := fun h1 w1 x9 y0 y1 o k => by
    rcases pt_ob pc o with ⟨rfl, rfl⟩ | ⟨x, rfl, -, -, f, -, -, -⟩
    · exact B640_184 ra rb (Or.inl rfl) (fun _ => B640_190 ra rb (Or.inl rfl) k) (fun b hb => by cases hb)
    · refine B640_184 ra rb (Or.inr ⟨x, rfl⟩) (fun hb => by cases hb) (fun b hb => ?_)
      cases hb
      exact B640_194 ra rb f k
  have d203 : ∀ (h1 : re_H) (w1 : List Value) (x9 : Int32), nb_ob h a0 9 w1 h1 → wp SC 640 d q 220 [(0, .ref a0), (1, .int (i32 s)), (2, .int (i32 w)), (5, va), (6, vb), (7, vc)] [.int (i32 (men a)), .int x9, .ref a0] h1 Q → wp SC 640 d q 203 [(0, .ref a0), (1, .int (i32 s)), (2, .int (i32 w)), (5, va), (6, vb), (7, vc), (9, .int x9)] [] h1 Q := fun h1 w1 x9 o k => by
    rcases pt_ob pa o with ⟨rfl, rfl⟩ | ⟨x, rfl, -, -, -, f, -, -⟩
    · exact B640_203 (Or.inl rfl) rb rc (fun _ => B640_211 (Or.inl rfl) rb rc k) (fun b hb => by cases hb)
    · refine B640_203 (Or.inr ⟨x, rfl⟩) rb rc (fun hb => by cases hb) (fun b hb => ?_)
      cases hb
      exact B640_215 rb rc f k
  have d220 : ∀ (h1 : re_H) (w1 : List Value) (y0 y1 : Int32), nb_ob h a0 9 w1 h1 → wp SC 640 d q 235 [(0, .ref a0), (1, .int (i32 s)), (2, .int (i32 w)), (5, va), (6, vb), (7, vc)] [.int (i32 (men b)), .int (y1 ||| y0), .ref a0] h1 Q → wp SC 640 d q 220 [(0, .ref a0), (1, .int (i32 s)), (2, .int (i32 w)), (5, va), (6, vb), (7, vc)] [.int y0, .int y1, .ref a0] h1 Q := fun h1 w1 y0 y1 o k => by
    rcases pt_ob pb o with ⟨rfl, rfl⟩ | ⟨x, rfl, -, -, -, f, -, -⟩
    · exact B640_220 ra (Or.inl rfl) rc (fun _ => B640_226 ra (Or.inl rfl) rc k) (fun b hb => by cases hb)
    · refine B640_220 ra (Or.inr ⟨x, rfl⟩) rc (fun hb => by cases hb) (fun b hb => ?_)
      cases hb
      exact B640_230 ra rc f k
  have d235 : ∀ (h1 : re_H) (w1 : List Value) (y0 y1 : Int32), nb_ob h a0 9 w1 h1 → wp SC 640 d q 250 [(0, .ref a0), (1, .int (i32 s)), (2, .int (i32 w)), (5, va), (6, vb), (7, vc)] [.int (i32 (men c)), .int (y1 ||| y0), .ref a0] h1 Q → wp SC 640 d q 235 [(0, .ref a0), (1, .int (i32 s)), (2, .int (i32 w)), (5, va), (6, vb), (7, vc)] [.int y0, .int y1, .ref a0] h1 Q := fun h1 w1 y0 y1 o k => by
    rcases pt_ob pc o with ⟨rfl, rfl⟩ | ⟨x, rfl, -, -, -, f, -, -⟩
    · exact B640_235 ra rb (Or.inl rfl) (fun _ => B640_241 ra rb (Or.inl rfl) k) (fun b hb => by cases hb)
    · refine B640_235 ra rb (Or.inr ⟨x, rfl⟩) (fun hb => by cases hb) (fun b hb => ?_)
      cases hb
      exact B640_245 ra rb f k
  have d267 : ∀ (h1 : re_H) (w1 : List Value) (y0 : Int32), nb_ob h a0 9 w1 h1 → wp SC 640 d q 281 [(0, .ref a0), (1, .int (i32 s)), (5, va), (6, vb), (7, vc)] [.int (i32 (inps a)), .int y0, .ref a0] h1 Q → wp SC 640 d q 267 [(0, .ref a0), (1, .int (i32 s)), (5, va), (6, vb), (7, vc)] [.int y0, .ref a0] h1 Q := fun h1 w1 y0 o k => by
    rcases pt_ob pa o with ⟨rfl, rfl⟩ | ⟨x, rfl, -, -, -, -, f, -⟩
    · exact B640_267 (Or.inl rfl) rb rc (fun _ => B640_272 (Or.inl rfl) rb rc k) (fun b hb => by cases hb)
    · refine B640_267 (Or.inr ⟨x, rfl⟩) rb rc (fun hb => by cases hb) (fun b hb => ?_)
      cases hb
      exact B640_276 rb rc f k
  have d281 : ∀ (h1 : re_H) (w1 : List Value) (y0 y1 : Int32), nb_ob h a0 9 w1 h1 → wp SC 640 d q 296 [(0, .ref a0), (1, .int (i32 s)), (5, va), (6, vb), (7, vc)] [.int (i32 (inps b)), .int (y1 ||| y0), .ref a0] h1 Q → wp SC 640 d q 281 [(0, .ref a0), (1, .int (i32 s)), (5, va), (6, vb), (7, vc)] [.int y0, .int y1, .ref a0] h1 Q := fun h1 w1 y0 y1 o k => by
    rcases pt_ob pb o with ⟨rfl, rfl⟩ | ⟨x, rfl, -, -, -, -, f, -⟩
    · exact B640_281 ra (Or.inl rfl) rc (fun _ => B640_287 ra (Or.inl rfl) rc k) (fun b hb => by cases hb)
    · refine B640_281 ra (Or.inr ⟨x, rfl⟩) rc (fun hb => by cases hb) (fun b hb => ?_)
      cases hb
      exact B640_291 ra rc f k
  have d296 : ∀ (h1 : re_H) (w1 : List Value) (y0 y1 : Int32), nb_ob h a0 9 w1 h1 → wp SC 640 d q 311 [(0, .ref a0), (1, .int (i32 s)), (5, va), (6, vb), (7, vc)] [.int (i32 (inps c)), .int (y1 ||| y0), .ref a0] h1 Q → wp SC 640 d q 296 [(0, .ref a0), (1, .int (i32 s)), (5, va), (6, vb), (7, vc)] [.int y0, .int y1, .ref a0] h1 Q := fun h1 w1 y0 y1 o k => by
    rcases pt_ob pc o with ⟨rfl, rfl⟩ | ⟨x, rfl, -, -, -, -, f, -⟩
    · exact B640_296 ra rb (Or.inl rfl) (fun _ => B640_302 ra rb (Or.inl rfl) k) (fun b hb => by cases hb)
    · refine B640_296 ra rb (Or.inr ⟨x, rfl⟩) (fun hb => by cases hb) (fun b hb => ?_)
      cases hb
      exact B640_306 ra rb f k
  have bi : ∀ (h1 : re_H), wp SC 640 d q 54 [(0, .ref a0), (1, .int (i32 s)), (2, .int (i32 w)), (5, va), (6, vb), (7, vc)] [.int (ib (decide (s = 6 ∨ s = 7)))] h1 Q → wp SC 640 d q 37 [(0, .ref a0), (1, .int (i32 s)), (2, .int (i32 w)), (5, va), (6, vb), (7, vc)] [] h1 Q := fun h1 k => by
    refine B640_37 ra rb rc (fun z => B640_49 ra rb rc ?_) (fun z => B640_43 ra rb rc (fun z2 => B640_53 ra rb rc ?_) (fun z2 => B640_49 ra rb rc ?_))
    · rw [show decide (s = 6 ∨ s = 7) = true from decide_eq_true (Or.inl ((se 6 (by omega)).mp z))] at k; exact k
    · rw [show decide (s = 6 ∨ s = 7) = false from decide_eq_false (fun y => y.elim (fun y => z ((se 6 (by omega)).mpr y)) (fun y => z2 ((se 7 (by omega)).mpr y)))] at k; exact k
    · rw [show decide (s = 6 ∨ s = 7) = true from decide_eq_true (Or.inr ((se 7 (by omega)).mp z2))] at k; exact k
  have ow : ∀ (h1 : re_H), wp SC 640 d q 73 [(0, .ref a0), (1, .int (i32 s)), (2, .int (i32 w)), (5, va), (6, vb), (7, vc), (8, .int (ib (decide (s = 6 ∨ s = 7))))] [.int (i32 (nb_own s w))] h1 Q → wp SC 640 d q 54 [(0, .ref a0), (1, .int (i32 s)), (2, .int (i32 w)), (5, va), (6, vb), (7, vc)] [.int (ib (decide (s = 6 ∨ s = 7)))] h1 Q := fun h1 k => by
    have own1 : s = 1 ∨ s = 6 ∨ s = 7 → i32 (nb_own s w) = i32 1 <<< (i32 w &&& 31) := fun z => by unfold nb_own; rw [if_pos z, i3_shl (by omega)]
    refine B640_54 ra rb rc (fun z => B640_66 ra rb rc ?_) (fun z => B640_61 ra rb rc (fun z2 => B640_72 ra rb rc ?_) (fun z2 => B640_66 ra rb rc ?_))
    · rw [← own1 (Or.inl ((se 1 (by omega)).mp z))]; exact k
    · have z3 := of_decide_eq_false (ib_0.mp z2)
      rw [show nb_own s w = 0 from if_neg (fun y => y.elim (fun y => z ((se 1 (by omega)).mpr y)) z3)] at k; exact k
    · have z3 : s = 6 ∨ s = 7 := Classical.not_not.mp (fun y => z2 (ib_0.mpr (decide_eq_false y)))
      rw [← own1 (Or.inr z3)]; exact k
  have bo : ∀ (h1 : re_H), wp SC 640 d q 86 [(0, .ref a0), (1, .int (i32 s)), (2, .int (i32 w)), (5, va), (6, vb), (7, vc), (9, .int (i32 (nb_own s w)))] [.int (i32 (nb_bnd s w))] h1 Q → wp SC 640 d q 73 [(0, .ref a0), (1, .int (i32 s)), (2, .int (i32 w)), (5, va), (6, vb), (7, vc), (8, .int (ib (decide (s = 6 ∨ s = 7))))] [.int (i32 (nb_own s w))] h1 Q := fun h1 k => by
    refine B640_73 ra rb rc (fun z => B640_85 ra rb rc ?_) (fun z => B640_80 ra rb rc ?_)
    · have z3 := of_decide_eq_false (ib_0.mp z)
      rw [show nb_bnd s w = 0 from if_neg z3] at k; exact k
    · have z3 : s = 6 ∨ s = 7 := Classical.not_not.mp (fun y => z (ib_0.mpr (decide_eq_false y)))
      rw [show nb_bnd s w = nb_own s w from by unfold nb_bnd nb_own; rw [if_pos z3, if_pos (Or.inr z3)]] at k; exact k
  have fr : ∀ (h1 : re_H), wp SC 640 d q 150 [(0, .ref a0), (1, .int (i32 s)), (2, .int (i32 w)), (5, va), (6, vb), (7, vc), (9, .int (i32 (nb_own s w))), (10, .int (i32 (nb_bnd s w)))] [.int (i32 (if s = 1 then 2 ^ w else 0)), .ref a0] h1 Q → wp SC 640 d q 138 [(0, .ref a0), (1, .int (i32 s)), (2, .int (i32 w)), (5, va), (6, vb), (7, vc), (9, .int (i32 (nb_own s w))), (10, .int (i32 (nb_bnd s w)))] [] h1 Q := fun h1 k => by
    refine B640_138 ra rb rc (fun z => B640_149 ra rb rc ?_) (fun z => B640_144 ra rb rc ?_)
    · rw [if_neg (fun y => z ((se 1 (by omega)).mpr y))] at k; exact k
    · have z1 := (se 1 (by omega)).mp z
      rw [if_pos z1] at k
      rw [show nb_own s w = 2 ^ w from if_pos (Or.inl z1)] at k ⊢; exact k
  have inn : ∀ (h1 : re_H), wp SC 640 d q 267 [(0, .ref a0), (1, .int (i32 s)), (5, va), (6, vb), (7, vc)] [.int (i32 (if s = 2 then 2 ^ w else 0)), .ref a0] h1 Q → wp SC 640 d q 254 [(0, .ref a0), (1, .int (i32 s)), (2, .int (i32 w)), (5, va), (6, vb), (7, vc)] [] h1 Q := fun h1 k => by
    refine B640_254 ra rb rc (fun z => B640_266 ra rb rc ?_) (fun z => B640_260 ra rb rc ?_)
    · rw [if_neg (fun y => z ((se 2 (by omega)).mpr y))] at k; exact k
    · rw [if_pos ((se 2 (by omega)).mp z), ← i3_shl (show w < 31 by omega)] at k; exact k
  obtain ⟨u0, u1, u2, u3, u4, u5, u6, u7, u8, u9, u10, rfl⟩ : ∃ u0 u1 u2 u3 u4 u5 u6 u7 u8 u9 u10, w0 = [u0, u1, u2, u3, u4, u5, u6, u7, u8, u9, u10] := by
    match w0, hl with
    | [u0, u1, u2, u3, u4, u5, u6, u7, u8, u9, u10], _ => exact ⟨u0, u1, u2, u3, u4, u5, u6, u7, u8, u9, u10, rfl⟩
  have o0 : nb_ob h a0 9 [u0, u1, u2, u3, u4, u5, u6, u7, u8, u9, u10] h := ⟨rfl, e0, fun _ _ => rfl⟩
  refine B640_0 ra rb rc ?_
  refine B640_4 ra rb rc o0.2.1 (by simp) ?_
  have o1 := ob_set o0 0 (.int (i32 s))
  refine B640_9 ra rb rc o1.2.1 (by simp) ?_
  have o2 := ob_set o1 1 (.int (i32 w))
  refine B640_14 ra rb rc o2.2.1 (by simp) ?_
  have o3 := ob_set o2 2 (.long n)
  refine B640_19 ra rb rc o3.2.1 (by simp) ?_
  have o4 := ob_set o3 3 va
  refine B640_25 ra rb rc o4.2.1 (by simp) ?_
  have o5 := ob_set o4 4 vb
  refine B640_31 ra rb rc o5.2.1 (by simp) ?_
  have o6 := ob_set o5 5 vc
  refine bi _ (ow _ (bo _ ?_))
  refine d86 _ _ _ _ o6 (d104 _ _ _ _ _ _ o6 (d119 _ _ _ _ _ _ o6 ?_))
  refine B640_134 ra rb rc o6.2.1 (by simp) ?_
  rw [i3_add, i3_add, i3_add, ← pts_E s w n a b c]
  have o7 := ob_set o6 6 (.int (i32 (pts (tE s w n a b c))))
  refine fr _ (d150 _ _ _ _ _ o7 (d164 _ _ _ _ _ _ o7 (d184 _ _ _ _ _ o7 ?_)))
  refine B640_199 ra rb rc o7.2.1 (by simp) ?_
  rw [i3_or, i3_or, i3_or, ← fre_E s w n a b c]
  have o8 := ob_set o7 7 (.int (i32 (fre (tE s w n a b c))))
  refine d203 _ _ _ o8 (d220 _ _ _ _ o8 (d235 _ _ _ _ o8 ?_))
  refine B640_250 ra rb rc o8.2.1 (by simp) ?_
  rw [i3_or, i3_or, i3_or, ← men_E s w n a b c]
  have o9 := ob_set o8 8 (.int (i32 (men (tE s w n a b c))))
  refine inn _ (d267 _ _ _ o9 (d281 _ _ _ _ o9 (d296 _ _ _ _ o9 ?_)))
  refine B640_311 ra rb rc o9.2.1 (by simp) ?_
  rw [i3_or, i3_or, i3_or, ← inps_E s w n a b c]
  have o10 := ob_set o9 9 (.int (i32 (inps (tE s w n a b c))))
  exact k315 _ _ o10 rfl rfl
