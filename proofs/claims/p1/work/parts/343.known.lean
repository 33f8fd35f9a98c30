/-- what is known: the constructors, at the law's start, and the two cell()s behind it -/
def rPM (y : Nat) (as : List Value) (h : re_H) : Option re_Res :=
  if y = 0 then (if decide (as = [.ref 0]) && rq_H h rH0 then some rR1 else none)
  else if y = 704 then (if decide (as = [.ref 301]) && rq_H h rH1 then some rR2 else none)
  else if y = 18 then (if decide (as = [.ref 0]) && rq_H h rHP then some rR3 else none)
  else if y = 721 then (if decide (as = [.ref 301]) && rq_H h rH4 then some rR4 else none)
  else none
theorem rPM_1 : rPM 0 [.ref 0] rH0 = some rR1 := by
  have h : (decide (([.ref 0] : List Value) = [.ref 0]) && rq_H rH0 rH0) = true := by decide +kernel
  unfold rPM
  rw [if_pos rfl, if_pos h]
theorem rPM_2 : rPM 704 [.ref 301] rH1 = some rR2 := by
  have h : (decide (([.ref 301] : List Value) = [.ref 301]) && rq_H rH1 rH1) = true := by decide +kernel
  unfold rPM
  rw [if_neg (by decide), if_pos rfl, if_pos h]
theorem rO0_ook (V : re_V) (SC : List Value) : re_Ook V (rO0 SC).1 := fun cd u v b x y h => by cases h
theorem rO0_aok (V : re_V) (SC : List Value) : re_Aok V (rO0 SC).2.1 := fun ins u v r ad cu cv h => by cases h
theorem rO0_pok (V : re_V) (SC : List Value) (l : Launch) (D : va_G) (tys : List (ClassId × FieldType)) (cA : Nat → ClassId) (B0 : Nat) : re_Pok V (rO0 SC) rN rG l D tys cA B0 := fun y' as h a hp => by cases hp
theorem rPM_pok {l : Launch} (hst : l.stackTraces = false) (V : re_V) (hSC : re_Sok V rSC4) {O : re_K} (hO : O.2.2.2 = rPM) (D : va_G) (tys : List (ClassId × FieldType)) (cA : Nat → ClassId) (B0 : Nat) (hE : ∀ j, j < re_nE rG → tys[j]? = some (cA j, re_E rN j)) : re_Pok V O rN rG l D tys cA B0 := by
  intro y' as h a hp ad ws asC rs
  rw [hO] at hp
  have hJ := re_all (V := V) (O := rO0 rSC4) (l := l) (D := D) (tys := tys) (cA := cA) (B0 := B0) hst (rO0_ook V rSC4) (rO0_aok V rSC4) hSC (rO0_pok V rSC4 l D tys cA B0) rOk rOkJ hE 100000
  unfold rPM at hp
  split at hp
  next hy =>
    subst hy
    split at hp
    next hc =>
      cases hp
      simp only [Bool.and_eq_true, decide_eq_true_eq] at hc
      obtain ⟨rfl, h2⟩ := hc
      cases rq_H_ok h2
      exact re_met hJ (by decide +kernel) (rq_R_ok rq_1) rs (by decide +kernel)
    next => cases hp
  next =>
    split at hp
    next hy =>
      subst hy
      split at hp
      next hc =>
        cases hp
        simp only [Bool.and_eq_true, decide_eq_true_eq] at hc
        obtain ⟨rfl, h2⟩ := hc
        cases rq_H_ok h2
        exact re_met hJ (by decide +kernel) (rq_R_ok rq_2) rs (by decide +kernel)
      next => cases hp
    next =>
      split at hp
      next hy =>
        subst hy
        split at hp
        next hc =>
          cases hp
          simp only [Bool.and_eq_true, decide_eq_true_eq] at hc
          obtain ⟨rfl, h2⟩ := hc
          cases rq_H_ok h2
          exact re_met hJ (by decide +kernel) (rq_R_ok rq_3) rs (by decide +kernel)
        next => cases hp
      next =>
        split at hp
        next hy =>
          subst hy
          split at hp
          next hc =>
            cases hp
            simp only [Bool.and_eq_true, decide_eq_true_eq] at hc
            obtain ⟨rfl, h2⟩ := hc
            cases rq_H_ok h2
            exact re_met hJ (by decide +kernel) (rq_R_ok rq_4) rs (by decide +kernel)
          next => cases hp
        next =>
          cases hp
/-! One instruction of the walk. -/
section RST
variable {G : re_G} {O : re_K} {n y pc : Nat} {lv : List (Nat × Value)} {st : List Value} {h : re_H} {ins : Instr}
theorem re_st_pure {q : Nat × List (Nat × Value) × List Value} (h0 : re_tw G y pc = none) (h1 : re_ins G y pc = some ins) (h2 : re_pure O.1 (re_nl G y) pc lv st ins = some q) : re_go G O (n + 1) y pc lv st h = re_go G O n y q.1 q.2.1 q.2.2 h := by
  rw [re_go.eq_def]
  simp only [h0, h1, h2]
theorem re_st_mk {q : Nat × List Value × re_C} (h0 : re_tw G y pc = none) (h1 : re_ins G y pc = some ins) (h2 : re_pure O.1 (re_nl G y) pc lv st ins = none) (h3 : re_hp (re_nE G) (re_fl G y) (re_ec G) (re_isI G y) pc st h ins = none) (h4 : re_ret (re_rt G y) ins st = none) (h5 : re_mk (re_nw G y) (re_an G y) pc st h.1 ins = some q) (h6 : h.1 < 1024) : re_go G O (n + 1) y pc lv st h = (re_go G O n y q.1 lv q.2.1 (re_hq h q.2.2)).map (re_add 1 q.2.2.2.length) := by
  rw [re_go.eq_def]
  simp only [h0, h1, h2, h3, h4, h5, h6, if_true]
theorem re_st_init {idx y' i t : Nat} {vs : List Value} {a : re_Res} (h0 : re_tw G y pc = none) (h1 : re_ins G y pc = some (.invokespecial idx)) (hc : re_cl G y idx = some (2, y', 0)) (hi : re_hg h i = some (t, vs)) (ht : t = re_ct G y') (hn : re_cat [.ref i] ≤ re_nl G y') (hr : re_cat st ≤ 8) (hp : O.2.2.2 y' [.ref i] h = some a) (ha : a.1 = 0) :
    re_go G O (n + 1) y pc lv (.ref i :: st) h = (re_go G O n y (pc + 3) lv st a.2.2.1).map (re_aft (re_nl G y') a) := by
  have ha4 : a.1 < 4 := by omega
  have hvl : re_vl a st = st := if_pos ha
  have hn' : re_cat (.ref i :: ([] : List Value)) ≤ re_nl G y' := hn
  rw [re_go.eq_def]
  simp [h0, h1, re_pure, re_hp, re_ret, re_mk, re_cst, re_acm, re_ora, re_scr, re_jdk, re_ifc, re_inv, hc, hi, ht, hr, hn', hp, ha4, hvl]
end RST
def rLP : List (Nat × Value) := [(4, .int 0), (3, .ref 309), (2, .ref 301), (1, .ref 0), (0, .retAddr 2)]
theorem rpi_0 : re_ins rG 669 0 = some (.new 8) := by decide +kernel
theorem rpi_3 : re_ins rG 669 3 = some (.dup) := by decide +kernel
theorem rpi_4 : re_ins rG 669 4 = some (.invokespecial 110) := by decide +kernel
theorem rpi_7 : re_ins rG 669 7 = some (.astore_n 1) := by decide +kernel
theorem rpi_8 : re_ins rG 669 8 = some (.new 111) := by decide +kernel
theorem rpi_11 : re_ins rG 669 11 = some (.dup) := by decide +kernel
theorem rpi_12 : re_ins rG 669 12 = some (.invokespecial 113) := by decide +kernel
theorem rpi_15 : re_ins rG 669 15 = some (.astore_n 2) := by decide +kernel
theorem rpi_16 : re_ins rG 669 16 = some (.iconst 1) := by decide +kernel
theorem rpi_17 : re_ins rG 669 17 = some (.newarray .long) := by decide +kernel
theorem rpi_19 : re_ins rG 669 19 = some (.astore_n 3) := by decide +kernel
theorem rpi_20 : re_ins rG 669 20 = some (.iconst 0) := by decide +kernel
theorem rpi_21 : re_ins rG 669 21 = some (.istore 4) := by decide +kernel
theorem rpt : ∀ pc, pc < 24 → re_tw rG 669 pc = none := by decide +kernel
theorem rpn_0 : re_nw rG 669 8 = some (0, [.null, .int 0, .null, .int 0, .null, .null, .null, .null, .int 0, .null, .int 0]) := by decide +kernel
theorem rpn_8 : re_nw rG 669 111 = some (10, [.null, .null, .int 0, .int 0, .int 0, .null, .int 0]) := by decide +kernel
theorem rpc_4 : re_cl rG 669 110 = some (2, 0, 0) := by decide +kernel
theorem rpc_12 : re_cl rG 669 113 = some (2, 704, 0) := by decide +kernel
theorem rpl : re_nl rG 669 = 8 := by decide +kernel
theorem rph_0 : re_hq re_h0 (0, [.null, .int 0, .null, .int 0, .null, .null, .null, .null, .int 0, .null, .int 0]) = rH0 := rq_H_ok (by decide +kernel)
theorem rph_1 : re_hq rHa (10, [.null, .null, .int 0, .int 0, .int 0, .null, .int 0]) = rH1 := rq_H_ok (by decide +kernel)
theorem rph_2 : re_hq rHb (101, [.long 0]) = rHP := rq_H_ok (by decide +kernel)
theorem rpg_0 : re_hg rH0 0 = some (0, [.null, .int 0, .null, .int 0, .null, .null, .null, .null, .int 0, .null, .int 0]) := by decide +kernel
theorem rpg_1 : re_hg rH1 301 = some (10, [.null, .null, .int 0, .int 0, .int 0, .null, .int 0]) := by decide +kernel
theorem rPre {O : re_K} (hO : O.2.2.2 = rPM) {n : Nat} {r : re_Res} (h : re_go rG O n 669 23 rLP [] rHP = some r) : ∃ res : re_Res, re_go rG O (n + 13) 669 0 (lv_args 0 [.retAddr 2]) [] re_h0 = some res ∧ res.1 = r.1 ∧ res.2.1 = r.2.1 ∧ res.2.2.2.1 ≤ 320 + r.2.2.2.1 ∧ res.2.2.2.2.1 ≤ 4561 + r.2.2.2.2.1 ∧ res.2.2.2.2.2.1 ≤ 100 + r.2.2.2.2.2.1 ∧ res.2.2.2.2.2.2 ≤ 1000 + r.2.2.2.2.2.2 := by
  have e0 : re_go rG O (n + 13) 669 0 (lv_args 0 [.retAddr 2]) [] re_h0 = (re_go rG O (n + 12) 669 3 [(0, .retAddr 2)] [.ref 0] rH0).map (re_add 1 11) := by
    rw [← rph_0]
    exact re_st_mk (h := re_h0) (q := (3, [.ref 0], (0, [.null, .int 0, .null, .int 0, .null, .null, .null, .null, .int 0, .null, .int 0]))) (rpt 0 (by omega)) rpi_0 rfl rfl rfl (by decide +kernel) (by decide +kernel)
  have e1 : re_go rG O (n + 12) 669 3 [(0, .retAddr 2)] [.ref 0] rH0 = re_go rG O (n + 11) 669 4 [(0, .retAddr 2)] [.ref 0, .ref 0] rH0 := re_st_pure (q := (4, [(0, .retAddr 2)], [.ref 0, .ref 0])) (rpt 3 (by omega)) rpi_3 rfl
  have e2 : re_go rG O (n + 11) 669 4 [(0, .retAddr 2)] [.ref 0, .ref 0] rH0 = (re_go rG O (n + 10) 669 7 [(0, .retAddr 2)] [.ref 0] rHa).map (re_aft (re_nl rG 0) rR1) := re_st_init (rpt 4 (by omega)) rpi_4 rpc_4 rpg_0 (by decide +kernel) (by decide +kernel) (by decide) (by rw [hO]; exact rPM_1) rfl
  have e3 : re_go rG O (n + 10) 669 7 [(0, .retAddr 2)] [.ref 0] rHa = re_go rG O (n + 9) 669 8 [(1, .ref 0), (0, .retAddr 2)] [] rHa := re_st_pure (q := (8, [(1, .ref 0), (0, .retAddr 2)], [])) (rpt 7 (by omega)) rpi_7 (by simp only [re_pure, rpl]; rfl)
  have e4 : re_go rG O (n + 9) 669 8 [(1, .ref 0), (0, .retAddr 2)] [] rHa = (re_go rG O (n + 8) 669 11 [(1, .ref 0), (0, .retAddr 2)] [.ref 301] rH1).map (re_add 1 7) := by
    rw [← rph_1]
    exact re_st_mk (h := rHa) (q := (11, [.ref 301], (10, [.null, .null, .int 0, .int 0, .int 0, .null, .int 0]))) (rpt 8 (by omega)) rpi_8 rfl rfl rfl (by decide +kernel) (by decide +kernel)
  have e5 : re_go rG O (n + 8) 669 11 [(1, .ref 0), (0, .retAddr 2)] [.ref 301] rH1 = re_go rG O (n + 7) 669 12 [(1, .ref 0), (0, .retAddr 2)] [.ref 301, .ref 301] rH1 := re_st_pure (q := (12, [(1, .ref 0), (0, .retAddr 2)], [.ref 301, .ref 301])) (rpt 11 (by omega)) rpi_11 rfl
  have e6 : re_go rG O (n + 7) 669 12 [(1, .ref 0), (0, .retAddr 2)] [.ref 301, .ref 301] rH1 = (re_go rG O (n + 6) 669 15 [(1, .ref 0), (0, .retAddr 2)] [.ref 301] rHb).map (re_aft (re_nl rG 704) rR2) := re_st_init (rpt 12 (by omega)) rpi_12 rpc_12 rpg_1 (by decide +kernel) (by decide +kernel) (by decide) (by rw [hO]; exact rPM_2) rfl
  have e7 : re_go rG O (n + 6) 669 15 [(1, .ref 0), (0, .retAddr 2)] [.ref 301] rHb = re_go rG O (n + 5) 669 16 [(2, .ref 301), (1, .ref 0), (0, .retAddr 2)] [] rHb := re_st_pure (q := (16, [(2, .ref 301), (1, .ref 0), (0, .retAddr 2)], [])) (rpt 15 (by omega)) rpi_15 (by simp only [re_pure, rpl]; rfl)
  have e8 : re_go rG O (n + 5) 669 16 [(2, .ref 301), (1, .ref 0), (0, .retAddr 2)] [] rHb = re_go rG O (n + 4) 669 17 [(2, .ref 301), (1, .ref 0), (0, .retAddr 2)] [.int 1] rHb := re_st_pure (q := (17, [(2, .ref 301), (1, .ref 0), (0, .retAddr 2)], [.int 1])) (rpt 16 (by omega)) rpi_16 rfl
  have e9 : re_go rG O (n + 4) 669 17 [(2, .ref 301), (1, .ref 0), (0, .retAddr 2)] [.int 1] rHb = (re_go rG O (n + 3) 669 19 [(2, .ref 301), (1, .ref 0), (0, .retAddr 2)] [.ref 309] rHP).map (re_add 1 1) := by
    rw [← rph_2]
    exact re_st_mk (h := rHb) (q := (19, [.ref 309], (101, [.long 0]))) (rpt 17 (by omega)) rpi_17 rfl rfl rfl (by decide +kernel) (by decide +kernel)
  have e10 : re_go rG O (n + 3) 669 19 [(2, .ref 301), (1, .ref 0), (0, .retAddr 2)] [.ref 309] rHP = re_go rG O (n + 2) 669 20 [(3, .ref 309), (2, .ref 301), (1, .ref 0), (0, .retAddr 2)] [] rHP := re_st_pure (q := (20, [(3, .ref 309), (2, .ref 301), (1, .ref 0), (0, .retAddr 2)], [])) (rpt 19 (by omega)) rpi_19 (by simp only [re_pure, rpl]; rfl)
  have e11 : re_go rG O (n + 2) 669 20 [(3, .ref 309), (2, .ref 301), (1, .ref 0), (0, .retAddr 2)] [] rHP = re_go rG O (n + 1) 669 21 [(3, .ref 309), (2, .ref 301), (1, .ref 0), (0, .retAddr 2)] [.int 0] rHP := re_st_pure (q := (21, [(3, .ref 309), (2, .ref 301), (1, .ref 0), (0, .retAddr 2)], [.int 0])) (rpt 20 (by omega)) rpi_20 rfl
  have e12 : re_go rG O (n + 1) 669 21 [(3, .ref 309), (2, .ref 301), (1, .ref 0), (0, .retAddr 2)] [.int 0] rHP = re_go rG O n 669 23 rLP [] rHP := re_st_pure (q := (23, rLP, [])) (rpt 21 (by omega)) rpi_21 (by simp only [re_pure, rpl]; rfl)
  refine ⟨re_add 1 11 (re_aft (re_nl rG 0) rR1 (re_add 1 7 (re_aft (re_nl rG 704) rR2 (re_add 1 1 r)))), by rw [e0, e1, e2, e3, e4, e5, e6, e7, e8, e9, e10, e11, e12, h]; rfl, rfl, rfl, ?_, ?_, ?_, ?_⟩
  · show 1 + (300 + (1 + (7 + (1 + r.2.2.2.1)))) ≤ _
    omega
  · show 11 + (4423 + (7 + (109 + (1 + r.2.2.2.2.1)))) ≤ _
    omega
  · show max (3 + 1) (max (4 + 1) r.2.2.2.2.2.1) ≤ _
    omega
  · show max (8 + (re_nl rG 0 + 11) + 61) (max (8 + (re_nl rG 704 + 11) + 80) r.2.2.2.2.2.2) ≤ _
    have a1 : re_nl rG 0 ≤ 20 := by decide +kernel
    have a2 : re_nl rG 704 ≤ 20 := by decide +kernel
    omega
