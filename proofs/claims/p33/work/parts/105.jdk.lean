/-! The member of the library that the walk knows. -/
section REK
variable {V : re_V} {O : re_K} {p : Program} {l : Launch} {e : Env} {R : Room} {s : State} {m : MethodId} {args : Array Value} {below : List Frame} {meth : Method} {c : Code} {H : Heap} {locs : List Loc} {cells slots : Nat} {Q : State → Prop} {pc : Nat} {ls : Array Slot}
variable {N : re_N} {G : re_G} {D : va_G} {tys : List (ClassId × FieldType)} {cA : Nat → ClassId} {B0 y : Nat}
theorem re_jdk_ok (hG : re_ok N G) (hJD : re_okJ N G) (F : re_Fr V N G D tys B0 y p s m args meth c) {lc : List (Nat × Value)} (hl : lv_has ls (re_nl G y) lc) {ins : Instr} {len : Nat} {st sc : List Value} {ad : List Nat} {q : Nat × List Value × Nat × Nat}
    (hdg0 : decode (re_yb N y) pc = .ok (ins, len)) (hlen : re_len ins = 0 ∨ len = re_len ins) (hq : re_jdk (re_jd G y) pc st ins = some q) (rs : re_rs V ad st sc)
    (hfr : q.2.2.1 ≤ R.frames) (hlo : q.2.2.2 ≤ R.locals) (hc1 : cells ≤ R.cells) (hs1 : slots ≤ R.slots)
    (kk : ∀ (sc' : List Value), re_rs V ad q.2.1 sc' → W p l e R s m args below meth c H locs cells slots Q (F0 m q.1 ls sc')) :
    W p l e R s m args below meth c H locs cells slots Q (F0 m pc ls sc) := by
  obtain ⟨hx, hb, hml, hr, hown, hts, hlocks, hname, hexc, hK, hZ1, hZ2, hSt, hB0, hAO, hTW, hX1, hX2, hX3⟩ := id F
  have hBin : ∀ w ∈ re_B N, w.before args s = true := fun w hw => hts w (List.mem_cons_of_mem _ hw)
  have hml9 : c.maxLocals = ls.size := hml.trans hl.1.symm
  have hcats : ∀ {r sr : List Value}, re_rs V ad r sr → re_cat r ≤ 8 → (sr.map fun v => v.category).sum ≤ 8 := fun h1 h2 => by
    have := re_cat_c h1
    unfold re_cat at this h2
    omega
  cases ins
  case invokestatic idx =>
    simp only [re_jdk] at hq
    have hdg : decode (re_yb N y) pc = .ok (.invokestatic idx, 3) := hlen.elim (fun q => absurd q (by simp [re_len])) (fun q => by rw [hdg0, q]; rfl)
    split at hq
    next k9 y9 x r hj =>
      split at hq
      next hcat =>
        cases hq
        obtain ⟨w1, w2, w3, w4⟩ := hJD _ _ _ _ hj rfl
        obtain ⟨s1, rfl, rs1⟩ := re_rs_l rs
        obtain ⟨s2, rfl, rs2⟩ := re_rs_l rs1
        have hc9 := hcats rs2 hcat
        exact va_mmin_long hx hb hml9 hown (hBin _ w1) (hBin _ w2) (hBin _ w3) (hBin _ w4) hfr (by have : 23 ≤ R.locals := hlo; omega) hc1 hs1 hdg (kk _ ⟨rfl, rs2⟩)
      next => cases hq
    next => cases hq
  all_goals (exact absurd hq (by simp [re_jdk]))
end REK
