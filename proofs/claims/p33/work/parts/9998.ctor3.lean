/-! Cellbrook's constructor. -/
def E00 : Ev := (fun _ => 0, 0, fun _ => False, fun _ => 0)
def mdA (h : re_H) (b : Nat) : Prop := re_hg h (b + 1) = some (103, List.replicate 20 .null)
def mdB (h : re_H) (b : Nat) : Prop := vr h (b + 2) (fun _ => (false, []))
def mdC (h : re_H) (b : Nat) : Prop := lkr h (b + 41) (b + 2) (fun _ _ => 0)
def mdD (h : re_H) (b : Nat) : Prop := re_hg h (b + 48) = some (4, [.ref (b + 49), .int 0]) ∧ re_hg h (b + 49) = some (101, List.replicate 4 (.long 0))
def mdE (h : re_H) (b : Nat) : Prop := re_hg h (b + 50) = some (105, lst 24 (fun i => .ref (b + 50 + 1 + 10 * i))) ∧ ∀ i, i < 24 → rs h E00 (b + 50 + 1 + 10 * i) R00
def mdF (h : re_H) (b : Nat) : Prop := re_hg h (b + 291) = some (6, [.ref (b + 50), .null, .null, .null, .int 0, .int 0])
def mdG (h : re_H) (b : Nat) : Prop := mcz h (b + 292) (b + 291) (b + 48) 0
def mdH (h : re_H) (b : Nat) : Prop := re_hg h (b + 298) = some (8, [.ref (b + 2), .ref (b + 41), .ref (b + 292), .ref (b + 50), .int (i32 0)])
def mdI (h : re_H) (b : Nat) : Prop := re_hg h (b + 299) = some (8, [.ref (b + 2), .ref (b + 41), .ref (b + 292), .ref (b + 50), .int (i32 12)])
def mdJ (h : re_H) (b : Nat) : Prop := re_hg h (b + 300) = some (107, List.replicate 4 .null)
section KV
variable {h h' h2 : re_H} {b n k o t : Nat} {w w' : List Value} {c : re_C} {S : Nat → Prop}
theorem mo_new (m : mo (fun a => a = o) n (re_hq h c) h2) (ho : h.1 = o) (hk : n + 1 ≤ k) : mo S k h h2 := by
  have l1 := m.1.1
  have l2 := m.2.2
  rw [hq_1] at l1 l2
  exact ⟨⟨by omega, fun a ha _ => (m.1.2 a (by rw [hq_1]; omega) (by show ¬ a = o; omega)).trans (hq_o ha)⟩, xk_tr xk_hq m.2.1, by omega⟩
theorem mo_of (e : re_hg h o = some (t, w)) (ht : ¬ t = 9) (f : ∀ a, a < h.1 → ¬ a = o → re_hg h' a = re_hg h a) (hl : h.1 ≤ h'.1) (hn : h'.1 ≤ h.1 + n) : mo (fun a => a = o) n h h' :=
  ⟨⟨hl, f⟩, fun a w' g => by
    rw [f a (hg_lt g) (fun y => by subst y; rw [e] at g; cases g; exact ht rfl)]
    exact g, hn⟩
theorem put_b (e : re_hg h2 b = some (0, w)) : re_hg (re_hw h2 b (0, w')) b = some (0, w') ∧ mo (fun a => a = b) 0 h2 (re_hw h2 b (0, w')) := ⟨hw_s (hg_lt e), mo_hw e (by omega) rfl⟩
theorem new_g (ho : h.1 = o) : re_hg (re_hq h c) o = some c := by rw [← ho]; exact hq_s
theorem mdA_m (m : mo (fun a => a = b) n h h') (z : mdA h b) : mdA h' b := mo_g m (by show ¬ b + 1 = b; omega) z
theorem mdB_m (m : mo (fun a => a = b) n h h') (z : mdB h b) : mdB h' b := vr_mo m (fun a ha y => by unfold inV at ha; omega) (vr_top z) z
theorem mdC_m (m : mo (fun a => a = b) n h h') (z : mdC h b) : mdC h' b := lkr_mo m (fun a ha y => by unfold inL at ha; omega) z
theorem mdD_m (m : mo (fun a => a = b) n h h') (z : mdD h b) : mdD h' b := ⟨mo_g m (by show ¬ b + 48 = b; omega) z.1, mo_g m (by show ¬ b + 49 = b; omega) z.2⟩
theorem rs_m {r : Nat} {R : Rs} (m : mo S n h h') (hr : ∀ a, inR r a → ¬ S a) (z : rs h E00 r R) : rs h' E00 r R := rs_mo (E := E00) (E' := E00) m hr (fun _ y => False.elim y) (fun _ y => False.elim y) (rs_top z) (eLe_rf E00) z
theorem mdE_m (m : mo (fun a => a = b) n h h') (z : mdE h b) : mdE h' b := ⟨mo_g m (by show ¬ b + 50 = b; omega) z.1, fun i hi => rs_m m (fun a ha y => by unfold inR at ha; omega) (z.2 i hi)⟩
theorem mdF_m (m : mo (fun a => a = b) n h h') (z : mdF h b) : mdF h' b := mo_g m (by show ¬ b + 291 = b; omega) z
theorem mcz_m {mm s rr ff : Nat} (m : mo S n h h') (hm : ∀ a, inM mm a → ¬ S a) (z : mcz h mm s rr ff) : mcz h' mm s rr ff := by
  obtain ⟨x5, x8, x9, x10, x11, kn, ps, ss, es, ns, fs, ⟨-, a0, a1, a2, a3, a4, a5, -⟩, l⟩ := z
  have g : ∀ k c, k ≤ 5 → re_hg h (mm + k) = some c → re_hg h' (mm + k) = some c := fun k c hk e => mo_g m (hm _ (by unfold inM; omega)) e
  exact ⟨x5, x8, x9, x10, x11, kn, ps, ss, es, ns, fs, ⟨rfl, g 0 _ (by omega) a0, g 1 _ (by omega) a1, g 2 _ (by omega) a2, g 3 _ (by omega) a3, g 4 _ (by omega) a4, g 5 _ (by omega) a5, fun _ _ => rfl⟩, l⟩
theorem mdG_m (m : mo (fun a => a = b) n h h') (z : mdG h b) : mdG h' b := mcz_m m (fun a ha y => by unfold inM at ha; omega) z
theorem mdH_m (m : mo (fun a => a = b) n h h') (z : mdH h b) : mdH h' b := mo_g m (by show ¬ b + 298 = b; omega) z
theorem mdI_m (m : mo (fun a => a = b) n h h') (z : mdI h b) : mdI h' b := mo_g m (by show ¬ b + 299 = b; omega) z
end KV
section KW
variable {SC : List Value} {d q : Nat} {h : re_H} {Q : Nat → Value → re_H → Prop} {b : Nat}
/-- the results -/
theorem c0r (hp : h.1 = b + 51) (e5 : re_hg h (b + 50) = some (105, List.replicate 24 .null)) {w : List Value} (e0 : re_hg h b = some (0, w)) (K : ∀ h', mdE h' b → mo (fun a => a = b + 50) 240 h h' → h'.1 = b + 291 → wp SC 0 (d + 2) q 80 [(0, .ref b), (1, .ref (b + 50))] [] h' Q) : wp SC 0 (d + 2) (q + 144) 58 [(0, .ref b), (1, .ref (b + 50)), (2, .int (i32 0))] [] h Q := by
  have loop : ∀ (k n : Nat), n + k = 24 → ∀ h1, re_hg h1 (b + 50) = some (105, lst 24 (fun i => if i < n then .ref (b + 50 + 1 + 10 * i) else .null)) → (∀ i, i < n → rs h1 E00 (b + 50 + 1 + 10 * i) R00) → mo (fun a => a = b + 50) (10 * n) h h1 → h1.1 = b + 50 + 1 + 10 * n → wp SC 0 (d + 2) (q + 6 * k) 58 [(0, .ref b), (1, .ref (b + 50)), (2, .int (i32 n))] [] h1 Q := by
    intro k
    induction k with
    | zero =>
      intro n hn h1 f5 fr m1 l1
      cases (show n = 24 by omega)
      refine L0_58 f5 (fun _ => K h1 ⟨?_, fr⟩ m1 (by omega)) (fun g => absurd ((i3_lt (by omega) (by rw [lst_len]; omega)).mp g) (by rw [lst_len]; omega))
      rw [f5]
      exact congrArg (fun z => some (105, z)) (lst_ext (fun i hi => by rw [if_pos hi]))
    | succ k ih =>
      intro n hn h1 f5 fr m1 l1
      refine L0_58 f5 (fun g => absurd ((i3_lt (by omega) (by rw [lst_len]; omega)).mpr (by rw [lst_len]; omega)) g) (fun _ => L0_64 ?_)
      rw [l1]
      have g9 := new_g (c := (5, [.int 0, .int 0, .int 0, .null, .null, .null, .null, .null, .int 0, .null, .null])) l1
      refine L0_69 g9 rfl (s1 := 0 + 6) (s2 := q + 6 * k) (by omega) (c320 (q := 0) g9 (by rw [hq_1, l1]) (fun h2 zr m2 l2 => ret0 ?_))
      have n2 : mo (fun a => a = b + 50) 10 h1 h2 := mo_new m2 l1 (by omega)
      have p2 : h2.1 = b + 50 + 1 + 10 * (n + 1) := by rw [l2, hq_1, l1]; omega
      have f2 := mo_g m2 (a := b + 50) (by show ¬ b + 50 = _; omega) (hq_k f5)
      have z2 := zr E00
      refine L0_73 f2 rfl (by omega) (by rw [lst_len]; omega) (Or.inr ⟨_, _, rfl, rs_0 z2⟩) (L0_74 ?_)
      rw [i3_add]
      generalize e3 : re_hw _ _ _ = h3
      have m3 : mo (fun a => a = b + 50) 0 h2 h3 := by rw [← e3]; exact mo_hw f2 (by omega) rfl
      refine ih (n + 1) (by omega) h3 ?_ (fun i hi => ?_) (mo_tr m1 (mo_tr n2 m3 (Nat.le_refl _)) (by omega)) ((mo_sz m3).trans p2)
      · rw [← e3, hw_s (hg_lt f2), lst_set]
        refine congrArg (fun z => some (105, z)) (lst_ext (fun i hi => ?_))
        rcases Nat.lt_trichotomy i n with g | g | g
        · rw [if_neg (by omega), if_pos g, if_pos (by omega)]
        · subst g; rw [if_pos rfl, if_pos (by omega)]
        · rw [if_neg (by omega), if_neg (by omega), if_neg (by omega)]
      · have out : ∀ a, inR (b + 50 + 1 + 10 * i) a → ¬ a = b + 50 := fun a ha => by unfold inR at ha; omega
        rcases Nat.lt_or_ge i n with g | g
        · exact rs_m m3 out (rs_m n2 out (fr i g))
        · cases (show i = n by omega)
          exact rs_m m3 out z2
  refine loop 24 0 rfl h ?_ (fun i hi => absurd hi (by omega)) mo_rf (by omega)
  rw [e5, rep_lst]
  exact congrArg (fun z => some (105, z)) (lst_ext (fun i hi => by rw [if_neg (by omega)]))
/-- what stands behind it -/
def made (h : re_H) (b : Nat) : Prop := re_hg h b = some (0, hdw b 0 0 0 0) ∧ mdA h b ∧ mdB h b ∧ mdC h b ∧ mdD h b ∧ mdE h b ∧ mdF h b ∧ mdG h b ∧ mdH h b ∧ mdI h b ∧ mdJ h b
theorem c0 (e : re_hg h b = some (0, [.null, .int 0, .null, .int 0, .null, .null, .null, .null, .int 0, .null, .int 0])) (hp : h.1 = b + 1) (K : ∀ h', made h' b → mo (fun a => a = b) 300 h h' → h'.1 = b + 301 → Q 0 .null h') : wp SC 0 (d + 2) (q + 1351) 0 [(0, .ref b)] [] h Q := by
  -- the pile
  refine L0_0 (L0_4 (i := 20) (s' := q + 1346) rfl (by omega) (by omega) (by omega) ?_)
  rw [hp]
  refine L0_10 (hq_k e) (by show 0 < 11; omega) ?_
  generalize E1 : re_hw _ _ _ = h1
  obtain ⟨b1, n1⟩ : re_hg h1 b = some (0, [.ref (b + 1), .int 0, .null, .int 0, .null, .null, .null, .null, .int 0, .null, .int 0]) ∧ mo (fun a => a = b) 0 (re_hq h (103, List.replicate 20 .null)) h1 := by rw [← E1]; exact put_b (hq_k e)
  have p1 : h1.1 = b + 2 := by have e9 := mo_sz n1; rw [hq_1] at e9; omega
  have A1 : mdA h1 b := mdA_m n1 (new_g hp)
  have m1 : mo (fun a => a = b) 1 h h1 := mo_tr (n := 1) (m := 0) ⟨kp_hq, xk_hq, Nat.le_refl _⟩ n1 (Nat.le_refl _)
  clear E1
  -- the code
  refine L0_13 ?_
  rw [p1]
  have g2 := new_g (c := (1, [.null, .null])) p1
  refine L0_17 g2 rfl (s1 := 0 + 2) (s2 := q + 1344) (by omega) (c64 (q := 0) g2 rfl (by rw [hq_1, p1]) (fun k2 B2 j2 l2 => ret0 ?_))
  have c2 := mo_g j2 (a := b) (by show ¬ b = b + 2; omega) (hq_k b1)
  have s2 : mo (fun a => a = b) 39 h1 k2 := mo_new j2 p1 (by omega)
  refine L0_21 c2 (by show 2 < 11; omega) ?_
  generalize E2 : re_hw _ _ _ = h2
  obtain ⟨b2, n2⟩ : re_hg h2 b = some (0, [.ref (b + 1), .int 0, .ref (b + 2), .int 0, .null, .null, .null, .null, .int 0, .null, .int 0]) ∧ mo (fun a => a = b) 0 k2 h2 := by rw [← E2]; exact put_b c2
  have p2 : h2.1 = b + 41 := by have e9 := mo_sz n2; rw [hq_1] at l2; omega
  have B2 : mdB h2 b := mdB_m n2 B2
  have m2 : mo (fun a => a = b) 39 h1 h2 := mo_tr s2 n2 (Nat.le_refl _)
  clear E2
  -- the links
  refine L0_24 ?_
  rw [p2]
  have g3 := new_g (c := (3, [.null, .null, .null, .null, .null, .null, .null])) p2
  refine L0_28 ⟨_, hq_k b2, rfl⟩ g3 rfl (s1 := 0 + 10) (s2 := q + 1334) (by omega) (c192 (q := 0) g3 (by rw [hq_1, p2]) (fun k3 C3 j3 l3 => ret0 ?_))
  have c3 := mo_g j3 (a := b) (by show ¬ b = b + 41; omega) (hq_k b2)
  have s3 : mo (fun a => a = b) 7 h2 k3 := mo_new j3 p2 (by omega)
  refine L0_36 c3 (by show 4 < 11; omega) ?_
  generalize E3 : re_hw _ _ _ = h3
  obtain ⟨b3, n3⟩ : re_hg h3 b = some (0, [.ref (b + 1), .int 0, .ref (b + 2), .int 0, .ref (b + 41), .null, .null, .null, .int 0, .null, .int 0]) ∧ mo (fun a => a = b) 0 k3 h3 := by rw [← E3]; exact put_b c3
  have p3 : h3.1 = b + 48 := by have e9 := mo_sz n3; rw [hq_1] at l3; omega
  have C3 : mdC h3 b := mdC_m n3 C3
  have m3 : mo (fun a => a = b) 7 h2 h3 := mo_tr s3 n3 (Nat.le_refl _)
  clear E3
  -- the resources
  refine L0_39 ?_
  rw [p3]
  have g4 := new_g (c := (4, [.null, .int 0])) p3
  refine L0_43 g4 rfl (s1 := 0) (s2 := q + 1334) (by omega) (c256 g4 (fun k4 D4 D4b j4 l4 => ret0 ?_))
  rw [hq_1, p3] at D4 D4b l4
  have j4 : mo (fun a => a = b + 48) 1 (re_hq h3 (4, [.null, .int 0])) k4 := mo_of g4 (by omega) j4 (by rw [hq_1]; omega) (by rw [hq_1]; omega)
  have c4 := mo_g j4 (a := b) (by show ¬ b = b + 48; omega) (hq_k b3)
  have s4 : mo (fun a => a = b) 2 h3 k4 := mo_new j4 p3 (by omega)
  refine L0_47 c4 (by show 5 < 11; omega) ?_
  generalize E4 : re_hw _ _ _ = h4
  obtain ⟨b4, n4⟩ : re_hg h4 b = some (0, [.ref (b + 1), .int 0, .ref (b + 2), .int 0, .ref (b + 41), .ref (b + 48), .null, .null, .int 0, .null, .int 0]) ∧ mo (fun a => a = b) 0 k4 h4 := by rw [← E4]; exact put_b c4
  have p4 : h4.1 = b + 50 := by have e9 := mo_sz n4; omega
  have D4 : mdD h4 b := mdD_m n4 ⟨D4, D4b⟩
  have m4 : mo (fun a => a = b) 2 h3 h4 := mo_tr s4 n4 (Nat.le_refl _)
  clear E4
  -- the results
  refine L0_50 (i := 24) (s' := q + 1327) rfl (by omega) (by omega) (by omega) ?_
  rw [p4]
  have g5 := new_g (c := (105, List.replicate 24 .null)) p4
  refine L0_55 (c0r (q := q + 1183) (by rw [hq_1, p4]) g5 (hq_k b4) (fun h5 E5 j5 p5 => ?_))
  have b5 := mo_g j5 (a := b) (by show ¬ b = b + 50; omega) (hq_k b4)
  have m5 : mo (fun a => a = b) 241 h4 h5 := mo_new j5 p4 (by omega)
  -- the store
  refine L0_80 ?_
  rw [p5]
  have g6 := new_g (c := (6, [.null, .null, .null, .null, .int 0, .int 0])) p5
  refine L0_83 g6 rfl (s1 := 0) (s2 := q + 1183) (by omega) (c384 g6 (fun h6 F6 j6 l6 => ret0 ?_))
  rw [hq_1, p5] at l6
  have F6 : mdF h6 b := F6
  have j6 : mo (fun a => a = b + 291) 0 (re_hq h5 (6, [.null, .null, .null, .null, .int 0, .int 0])) h6 := mo_of g6 (by omega) (fun a _ hn => j6 a hn) (by rw [hq_1]; omega) (by rw [hq_1]; omega)
  have b6 := mo_g j6 (a := b) (by show ¬ b = b + 291; omega) (hq_k b5)
  have m6 : mo (fun a => a = b) 1 h5 h6 := mo_new j6 p5 (by omega)
  -- the machine
  refine L0_88 (s' := q + 1181) (by omega) ?_
  rw [l6]
  have g7 := new_g (c := (7, [.null, .null, .null, .null, .null, .int 0, .null, .null, .int 0, .int 0, .int 0, .int 0, .null, .long 0])) l6
  refine L0_92 ⟨_, hq_k b6, rfl⟩ g7 rfl (s1 := 0 + 1181) (s2 := q) (by omega) (c448 (q := 0) g7 (by rw [hq_1, l6]) (fun h7 G7 j7 l7 => ret0 ?_))
  rw [hq_1, l6] at l7
  have G7 : mdG h7 b := G7
  have b7 := mo_g j7 (a := b) (by show ¬ b = b + 291 + 1; omega) (hq_k b6)
  have m7 : mo (fun a => a = b) 6 h6 h7 := mo_new j7 l6 (by omega)
  have p7 : h7.1 = b + 298 := by omega
  -- the sheet
  refine L0_101 ?_
  rw [p7]
  have g8 := new_g (c := (8, [.null, .null, .null, .null, .int 0])) p7
  refine L0_106 ⟨_, hq_k b7, rfl⟩ ⟨_, hq_k b7, rfl⟩ g8 rfl (s1 := 0) (s2 := q) (by omega) (c512 g8 (fun k8 H8 j8 l8 => ret0 ?_))
  rw [hq_1, p7] at l8
  have j8 : mo (fun a => a = b + 298) 0 (re_hq h7 (8, [.null, .null, .null, .null, .int 0])) k8 := mo_of g8 (by omega) (fun a _ hn => j8 a hn) (by rw [hq_1]; omega) (by rw [hq_1]; omega)
  have c8 := mo_g j8 (a := b) (by show ¬ b = b + 298; omega) (hq_k b7)
  have s8 : mo (fun a => a = b) 1 h7 k8 := mo_new j8 p7 (by omega)
  refine L0_121 c8 (by show 6 < 11; omega) ?_
  generalize E8 : re_hw _ _ _ = h8
  obtain ⟨b8, n8⟩ : re_hg h8 b = some (0, [.ref (b + 1), .int 0, .ref (b + 2), .int 0, .ref (b + 41), .ref (b + 48), .ref (b + 298), .null, .int 0, .null, .int 0]) ∧ mo (fun a => a = b) 0 k8 h8 := by rw [← E8]; exact put_b c8
  have p8 : h8.1 = b + 299 := by have e9 := mo_sz n8; omega
  have H8 : mdH h8 b := mdH_m n8 H8
  have m8 : mo (fun a => a = b) 1 h7 h8 := mo_tr s8 n8 (Nat.le_refl _)
  clear E8
  -- the sheet of all anew
  refine L0_124 ?_
  rw [p8]
  have g9 := new_g (c := (8, [.null, .null, .null, .null, .int 0])) p8
  refine L0_128 ⟨_, hq_k b8, rfl⟩ ⟨_, hq_k b8, rfl⟩ g9 rfl (s1 := 0) (s2 := q) (by omega) (c512 g9 (fun k9 I9 j9 l9 => ret0 ?_))
  rw [hq_1, p8] at l9
  have j9 : mo (fun a => a = b + 299) 0 (re_hq h8 (8, [.null, .null, .null, .null, .int 0])) k9 := mo_of g9 (by omega) (fun a _ hn => j9 a hn) (by rw [hq_1]; omega) (by rw [hq_1]; omega)
  have c9 := mo_g j9 (a := b) (by show ¬ b = b + 299; omega) (hq_k b8)
  have s9 : mo (fun a => a = b) 1 h8 k9 := mo_new j9 p8 (by omega)
  refine L0_144 c9 (by show 7 < 11; omega) ?_
  generalize E9 : re_hw _ _ _ = h9
  obtain ⟨b9, n9⟩ : re_hg h9 b = some (0, [.ref (b + 1), .int 0, .ref (b + 2), .int 0, .ref (b + 41), .ref (b + 48), .ref (b + 298), .ref (b + 299), .int 0, .null, .int 0]) ∧ mo (fun a => a = b) 0 k9 h9 := by rw [← E9]; exact put_b c9
  have p9 : h9.1 = b + 300 := by have e9 := mo_sz n9; omega
  have I9 : mdI h9 b := mdI_m n9 I9
  have m9 : mo (fun a => a = b) 1 h8 h9 := mo_tr s9 n9 (Nat.le_refl _)
  clear E9
  -- the branches
  refine L0_147 (i := 4) (s' := q) rfl (by omega) (by omega) (by omega) ?_
  rw [p9]
  have gX := hq_k (c := (107, List.replicate 4 .null)) b9
  refine L0_152 gX (by show 9 < 11; omega) ?_
  generalize EX : re_hw _ _ _ = hX
  obtain ⟨bX, nX⟩ : re_hg hX b = some (0, [.ref (b + 1), .int 0, .ref (b + 2), .int 0, .ref (b + 41), .ref (b + 48), .ref (b + 298), .ref (b + 299), .int 0, .ref (b + 300), .int 0]) ∧ mo (fun a => a = b) 0 (re_hq h9 (107, List.replicate 4 .null)) hX := by rw [← EX]; exact put_b gX
  clear EX
  refine L0_155 bX (by show 8 < 11; omega) (L0_160 ?_)
  generalize EY : re_hw _ _ _ = hY
  obtain ⟨bY, nY'⟩ : re_hg hY b = some (0, hdw b 0 0 0 0) ∧ mo (fun a => a = b) 0 hX hY := by rw [← EY]; exact put_b bX
  clear EY
  have nZ := mo_tr nX nY' (Nat.le_refl _)
  have J : mdJ hY b := mo_g nZ (by show ¬ b + 300 = b; omega) (new_g p9)
  have mX : mo (fun a => a = b) 1 h9 hY := mo_tr (n := 1) ⟨kp_hq, xk_hq, Nat.le_refl _⟩ nZ (Nat.le_refl _)
  have t9 := mo_tr m9 mX (Nat.le_refl _)
  have t8 := mo_tr m8 t9 (Nat.le_refl _)
  have t7 := mo_tr m7 t8 (Nat.le_refl _)
  have t6 := mo_tr m6 t7 (Nat.le_refl _)
  have t5 := mo_tr m5 t6 (Nat.le_refl _)
  have t4 := mo_tr m4 t5 (Nat.le_refl _)
  have t3 := mo_tr m3 t4 (Nat.le_refl _)
  have t2 := mo_tr m2 t3 (Nat.le_refl _)
  have t1 := mo_tr m1 t2 (Nat.le_refl _)
  exact K hY ⟨bY, mdA_m t2 A1, mdB_m t3 B2, mdC_m t4 C3, mdD_m t5 D4, mdE_m t6 E5, mdF_m t7 F6, mdG_m t8 G7, mdH_m t9 H8, mdI_m mX I9, J⟩ t1 (by have e9 := mo_sz nZ; rw [hq_1] at e9; omega)
end KW
