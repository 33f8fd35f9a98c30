section REA
variable {V : re_V} {O : re_K} {l : Launch} {N : re_N} {G : re_G} {D : va_G} {tys : List (ClassId × FieldType)} {cA : Nat → ClassId} {B0 : Nat}
theorem re_inv_ok {cl : Nat → Option (Nat × Nat × Nat)} {ins : Instr} {k y' na : Nat} (h : re_inv cl ins = some (k, y', na)) :
    (∃ idx, ins = .invokestatic idx ∧ (k = 0 ∨ k = 4 ∨ k = 8) ∧ cl idx = some (k, y', na)) ∨ (∃ idx, ins = .invokevirtual idx ∧ (k = 1 ∨ k = 5) ∧ cl idx = some (k, y', na)) ∨ ∃ idx, ins = .invokespecial idx ∧ (k = 2 ∨ k = 3 ∨ k = 6) ∧ cl idx = some (k, y', na) := by
  cases ins
  case invokestatic idx =>
    simp only [re_inv] at h
    split at h
    next z => cases h; exact Or.inl ⟨idx, rfl, Or.inl rfl, z⟩
    next z => cases h; exact Or.inl ⟨idx, rfl, Or.inr (Or.inr rfl), z⟩
    next z => cases h; exact Or.inl ⟨idx, rfl, Or.inr (Or.inl rfl), z⟩
    next => cases h
  case invokevirtual idx =>
    simp only [re_inv] at h
    split at h
    next z => cases h; exact Or.inr (Or.inl ⟨idx, rfl, Or.inl rfl, z⟩)
    next z => cases h; exact Or.inr (Or.inl ⟨idx, rfl, Or.inr rfl, z⟩)
    next => cases h
  case invokespecial idx =>
    simp only [re_inv] at h
    split at h
    next z => cases h; exact Or.inr (Or.inr ⟨idx, rfl, Or.inl rfl, z⟩)
    next z => cases h; exact Or.inr (Or.inr ⟨idx, rfl, Or.inr (Or.inl rfl), z⟩)
    next z => cases h; exact Or.inr (Or.inr ⟨idx, rfl, Or.inr (Or.inr rfl), z⟩)
    next => cases h
  all_goals (exact absurd h (by simp [re_inv]))
theorem re_res_le {n y y' pc : Nat} {lv : List (Nat × Value)} {rest : List Value} {a res : re_Res} (h : re_aftc G O n y y' pc lv rest a = some res) :
    a.2.2.2.1 ≤ res.2.2.2.1 ∧ a.2.2.2.2.1 ≤ res.2.2.2.2.1 ∧ a.2.2.2.2.2.1 + 1 ≤ res.2.2.2.2.2.1 ∧ 8 + (re_nl G y' + 11) + a.2.2.2.2.2.2 ≤ res.2.2.2.2.2.2 := by
  have key : ∀ r : re_Res, a.2.2.2.1 ≤ (re_aft (re_nl G y') a r).2.2.2.1 ∧ a.2.2.2.2.1 ≤ (re_aft (re_nl G y') a r).2.2.2.2.1 ∧ a.2.2.2.2.2.1 + 1 ≤ (re_aft (re_nl G y') a r).2.2.2.2.2.1 ∧ 8 + (re_nl G y' + 11) + a.2.2.2.2.2.2 ≤ (re_aft (re_nl G y') a r).2.2.2.2.2.2 :=
    fun r => ⟨Nat.le_add_right _ _, Nat.le_add_right _ _, Nat.le_max_left _ _, Nat.le_max_left _ _⟩
  unfold re_aftc at h
  split at h
  · obtain ⟨r, -, rfl⟩ := Option.map_eq_some_iff.mp h
    exact key r
  · split at h
    · cases h
      exact key _
    · split at h
      · obtain ⟨r, -, rfl⟩ := Option.map_eq_some_iff.mp h
        exact key r
      · cases h
    · cases h
set_option maxHeartbeats 1000000 in
theorem re_all (hst : l.stackTraces = false) (hO : re_Ook V O.1) (hOA : re_Aok V O.2.1) (hSC : re_Sok V O.2.2.1) (hPM : re_Pok V O N G l D tys cA B0) (hG : re_ok N G) (hJD : re_okJ N G) (hE : ∀ j, j < re_nE G → tys[j]? = some (cA j, re_E N j)) : ∀ n : Nat, re_J V O N G l D tys cA B0 n := by
  intro n
  induction n with
  | zero =>
    intro y pc lv st h res hgo
    exact absurd hgo (by simp [re_go])
  | succ n ih =>
    intro y pc lv st h res hgo p e R s m args below meth c F H locs cells slots ls lc sc ad0 q ws hl rl rs hW hS mc ms hc1 hs1 hmc hms hfr hlo
    unfold re_go at hgo
    split at hgo
    next x hx9 => cases hgo; exact re_throw_ok hst hG F (nL := 0) (lc := lc) hx9 hl rs hW hS hc1 hs1 hmc hms hfr hlo
    next hx9 =>
    split at hgo
    next => cases hgo
    next ins hins =>
    obtain ⟨len, hdg, hlen⟩ := hG.1 _ _ _ hins
    obtain ⟨hx, hb, hml, hr, hown, hts, hlocks, hname, hexc, hAt⟩ := id F
    obtain ⟨hK, hZ1, hZ2, hSt, hB0, hAO, hTW, hX1, hX2, hX3⟩ := id hAt
    obtain ⟨o1, o2, o3, ⟨o4a, o4b, o4c, o4d, o4e⟩, o5, o6, o7, o8, o9, o10, o11, o12, o13, o14, o15⟩ := id hG
    have hBin : ∀ w ∈ re_B N, w.before args s = true := fun w hw => hts w (List.mem_cons_of_mem _ hw)
    split at hgo
    next q1 hq1 =>
      obtain ⟨pc1, lv1, st1⟩ := q1
      exact re_pure_ok hx hb hO hdg hlen hq1 hl rl rs (fun ls' lc' sc' hl' rl' rs' => ih _ _ _ _ _ _ hgo p e R s m args below meth c F H locs cells slots ls' lc' sc' ad0 q ws hl' rl' rs' hW hS mc ms hc1 hs1 hmc hms hfr hlo)
    next hq1 =>
    split at hgo
    next q2 hq2 =>
      obtain ⟨pc1, st1, h1⟩ := q2
      obtain ⟨rw0, hP, hD⟩ := id hW
      have hecc : ∀ j ci, re_ec G j ci = true → re_ecok s (re_cs N) (re_E N) j ci := fun j ci hj => by
        obtain ⟨r, k1, k2⟩ := o5 j ci hj
        refine ⟨r, k1, ?_⟩
        rcases k2 with k2 | ⟨nm, k2, k3⟩
        · exact Or.inl k2
        · exact Or.inr ⟨nm, k2, (hTW _ k3).2⟩
      have hfl : ∀ idx ci k ty fin, re_fl G y idx = some (ci, k, ty, fin) → re_flok s args (re_yn N y).cls (re_cs N) idx ci k ty fin := fun idx ci k ty fin hf => by
        obtain ⟨r, ref, k1, k2, k3, k3b, k4, k5, k6⟩ := o2 y idx ci k ty fin hf
        exact ⟨r, ref, k1, k2, hBin _ k3, k3b.elim (fun e9 x9 z9 => by rw [e9]; exact z9) (fun h9 x9 z9 => u_same (hBin _ h9) x9 z9), k4, k5, k6⟩
      have hcl : re_Cl (re_cs N) (re_ws N G y) := ⟨o3.1, fun ci r hc => ⟨fun w hw => List.mem_cons_of_mem _ ((o3.2 ci r hc).1 w hw), (o3.2 ci r hc).2⟩⟩
      exact re_hp_ok hx hb hts hown hK hP hD hS hcl hfl hE o4d o4a o4b o4c o4e hecc (fun hi => hname.trans (o6 y hi)) hdg hlen hq2 rs rw0
        (fun H1 locs1 ws' sc' hP1 hD1 hS1 rs1 rw1 => ih _ _ _ _ _ _ hgo p e R s m args below meth c F H1 locs1 cells slots ls lc sc' ad0 q ws' hl rl rs1 ⟨rw1, hP1, hD1⟩ hS1 mc ms hc1 hs1 hmc hms hfr hlo)
    next hq2 =>
    split at hgo
    next q3 hq3 =>
      cases hgo
      exact re_ret_ok F hdg hlen hq3 rs hW hS hc1 hs1
    next hq3 =>
    split at hgo
    next q4 hq4 =>
      obtain ⟨r, hr2, rfl⟩ := Option.map_eq_some_iff.mp hgo
      have hc2 : cells + (1 + r.2.2.2.1) ≤ mc := hc1
      have hs2 : slots + (q4.2.2.2.length + r.2.2.2.2.1) ≤ ms := hs1
      exact re_mk_ok hG hE F hdg hlen hq4 rs hW hS (by omega) (by omega) (fun a H1 ws' sc' hW1 hS1 rs1 =>
        ih _ _ _ _ _ _ hr2 p e R s m args below meth c F H1 locs _ _ ls lc sc' ad0 (q ++ [a]) ws' hl (by rw [← List.append_assoc]; exact re_rl_up [a] rl) (by rw [← List.append_assoc]; exact rs1) (by rw [← List.append_assoc]; exact hW1) hS1 mc ms (by omega) (by omega) hmc hms hfr hlo)
    next hq4 =>
    split at hgo
    next q5 hq5 =>
      exact re_cst_ok hG F hdg hlen hq5 (fun hv => ih _ _ _ _ _ _ hgo p e R s m args below meth c F H locs cells slots ls lc (q5.2 :: sc) ad0 q ws hl rl ⟨hv _ _, rs⟩ hW hS mc ms hc1 hs1 hmc hms hfr hlo)
    next hq5 =>
    split at hgo
    next q6 hq6 =>
      refine re_acm_ok (V := V) hx hb (fun i j a h1 h2 => ?_) hdg hlen hq6 rs (fun sc' rs1 => ih _ _ _ _ _ _ hgo p e R s m args below meth c F H locs cells slots ls lc sc' ad0 q ws hl rl rs1 hW hS mc ms hc1 hs1 hmc hms hfr hlo)
      obtain ⟨⟨w1, w2, w3, w4, g⟩, -, hD⟩ := id hW
      obtain ⟨e1, g1⟩ := g i a h1
      obtain ⟨e2, g2⟩ := g j a h2
      exact hD.1 i j _ _ g1 g2 rfl
    next hq6 =>
    split at hgo
    next q7 hq7 =>
      exact re_ora_ok (V := V) hx hb hOA hdg hlen hq7 rs (fun sc' rs1 => ih _ _ _ _ _ _ hgo p e R s m args below meth c F H locs cells slots ls lc sc' ad0 q ws hl rl rs1 hW hS mc ms hc1 hs1 hmc hms hfr hlo)
    next hq7 =>
    split at hgo
    next q8 hq8 =>
      exact re_scr_ok (V := V) hx hb hSC hX1 (Nat.lt_of_lt_of_le hX2 hB0) (by show ¬ B0 ≤ V.1 2; omega) hS hdg hlen hq8 rs (fun sc' rs1 => ih _ _ _ _ _ _ hgo p e R s m args below meth c F H locs cells slots ls lc sc' ad0 q ws hl rl rs1 hW hS mc ms hc1 hs1 hmc hms hfr hlo)
    next hq8 =>
    split at hgo
    next q9 hq9 =>
      obtain ⟨r, hr2, rfl⟩ := Option.map_eq_some_iff.mp hgo
      have hc2 : cells + r.2.2.2.1 ≤ mc := hc1
      have hs2 : slots + r.2.2.2.2.1 ≤ ms := hs1
      have hf2 : max q9.2.2.1 r.2.2.2.2.2.1 ≤ R.frames := hfr
      have hl2 : max q9.2.2.2 r.2.2.2.2.2.2 ≤ R.locals := hlo
      exact re_jdk_ok hG hJD F hl hdg hlen hq9 rs (by omega) (by omega) (by omega) (by omega) (fun sc' rs1 => ih _ _ _ _ _ _ hr2 p e R s m args below meth c F H locs cells slots ls lc sc' ad0 q ws hl rl rs1 hW hS mc ms (by omega) (by omega) hmc hms (by omega) (by omega))
    next hq9 =>
    split at hgo
    next => cases hgo
    next k y' na hinv =>
    have hrl := re_rs_take na rs
    have hsc : sc = (sc.take na).reverse.reverse ++ sc.drop na := by rw [List.reverse_reverse, List.take_append_drop]
    have hlenA : (st.take na).length = na → (sc.take na).reverse.length = na := fun hz => by rw [List.length_reverse, re_rs_len hrl.1]; exact hz
    split at hgo
    next hk3 =>
      subst hk3
      rcases re_inv_ok hinv with ⟨idx, rfl, hk, hci⟩ | ⟨idx, rfl, hk, hci⟩ | ⟨idx, rfl, hk, hci⟩
      · omega
      · omega
      · have hdg' : decode (re_yb N y) pc = .ok (.invokespecial idx, 3) := hlen.elim (fun q => absurd q (by simp [re_len])) (fun q => by rw [hdg, q]; rfl)
        split at hgo
        next i r =>
          split at hgo
          next hcat =>
            obtain ⟨a, sr, rfl, ha, rs1⟩ := re_rs_r rs
            obtain ⟨rr, hr2, rfl⟩ := Option.map_eq_some_iff.mp hgo
            obtain ⟨w1, w2, w3⟩ := (o7 _ _ _ _ _ hci).1 rfl
            have hf2 : max 1 rr.2.2.2.2.2.1 ≤ R.frames := hfr
            have hl2 : max 20 rr.2.2.2.2.2.2 ≤ R.locals := hlo
            have hcc := re_cat_c rs1
            refine W.objInit hx hb hown (hBin _ w1) (hBin _ w2) (hBin _ w3) rfl (by rw [hml]; exact hl.1) rfl hdg' (by omega) (?_) ?_
            · show 2 * 0 + re_cat sr + 12 ≤ R.locals
              omega
            · exact ih _ _ _ _ _ _ hr2 p e R s m args below meth c F H locs cells slots ls lc sr ad0 q ws hl rl rs1 hW hS mc ms hc1 hs1 hmc hms (by omega) (by omega)
          next => cases hgo
        next => cases hgo
    next hk3 =>
    have hU9 : ∀ (asC : List Value) (U : State), U.heap = H → s.WarmedH U.vm → re_Pc V N D tys cA B0 asC (ad0 ++ q) h ws asC.toArray U := fun asC U hU hW9 => ⟨rfl, re_K_moved hAt hS hU hW9, by rw [hU]; exact hW⟩
    have hnest : ∀ {idx : Nat}, (∃ z, Cond.methodLinkNest (re_yn N y).cls idx (re_yn N y') z ∈ re_TW N) → ∃ z, va_Nw (Cond.methodLinkNest (re_yn N y).cls idx (re_yn N y') z) s := fun ⟨z, hz⟩ => ⟨z, (hTW _ hz).2⟩
    have hwe : re_hh G y' = [] → re_ws N G y' = Cond.code (re_yn N y') (re_yb N y') (re_nl G y') (re_rt G y') :: re_B N := fun z => by unfold re_ws re_cw; rw [z]
    rcases re_inv_ok hinv with ⟨idx, rfl, hk, hci⟩ | ⟨idx, rfl, hk, hci⟩ | ⟨idx, rfl, hk, hci⟩
    · -- a static method
      have hdg' : decode (re_yb N y) pc = .ok (.invokestatic idx, 3) := hlen.elim (fun q => absurd q (by simp [re_len])) (fun q => by rw [hdg, q]; rfl)
      obtain ⟨-, c2, c3, c4, c5, c6, c7, c8, c9, c10⟩ := o7 _ _ _ _ _ hci
      rw [if_pos hk] at hgo
      split at hgo
      next hcond =>
        obtain ⟨hcat, hna, hnl⟩ := hcond
        split at hgo
        next => cases hgo
        next a ha =>
          have hM := c2 hk3
          have hle := re_res_le hgo
          have hroom : 2 * (F0 m pc ls sc).monitorRoom + ((sc.drop na).map fun v => v.category).sum ≤ 8 := lv_room (by have := re_cat_c hrl.2; unfold re_cat at this hcat; omega)
          refine re_call_ok ih hG F (a := a) (st0 := sc) (restC := sc.drop na) (rest := st.drop na) (ar := (sc.take na).reverse.toArray) ?_ hl rl hrl.2 hS hgo hc1 hs1 hmc hms hfr hlo
          have hMet : vx_Met l (re_yn N y') (re_ws N G y') ({ frames := a.2.2.2.2.2.1, cells := a.2.2.2.1, slots := a.2.2.2.2.1, locals := a.2.2.2.2.2.2 }) (re_Pc V N D tys cA B0 (sc.take na).reverse (ad0 ++ q) h ws) (re_Q V N D cA B0 (ad0 ++ q) a.1 a.2.1 a.2.2.1) (re_XQ V N D cA B0 (ad0 ++ q) a.1 a.2.2.1) a.2.2.2.1 a.2.2.2.2.1 (fun q => B0 ≤ q) := by
            split at ha
            next a9 hpm => cases ha; exact hPM _ _ _ _ hpm _ ws _ (re_rs_rev hrl.1)
            next => exact re_met ih hM.2.2.1 ha (ad := ad0 ++ q) (ws := ws) (re_rs_rev hrl.1) hnl
          rcases hk with hk | hk | hk
          · exact vx_runS (As := (sc.take na).reverse) (rest := sc.drop na) ⟨hx, hb, hml, hown, hts⟩ hMet ⟨callB_of na hts (re_good hG hM) (hwe (c9 hk3 (by omega))) rfl rfl (hBin _ hM.2.1) (hBin _ (c3 (Or.inl hk))) hM.2.2.2 (by dsimp only; omega), hBin _ (c5 (Or.inl hk))⟩ ⟨re_blind, fun U hU hW9 => hU9 _ U hU hW9⟩ rfl (hlenA hna) hl.1 hsc hroom hdg' (by omega)
          · obtain ⟨z, hz⟩ := hnest (c4 (Or.inl hk))
            exact vx_runSN (As := (sc.take na).reverse) (rest := sc.drop na) ⟨hx, hb, hml, hown, hts⟩ hMet ⟨va_cnB na hts (re_good hG hM) (hwe (c9 hk3 (by omega))) rfl rfl hz (hBin _ hM.2.1) hM.2.2.2 (by dsimp only; omega), hBin _ (c5 (Or.inr (Or.inl hk))), trivial⟩ ⟨re_blind, fun U hU hW9 => hU9 _ U hU hW9⟩ rfl (hlenA hna) hl.1 hsc hroom hdg' (by omega)
          · have hcwe : re_cw N G y' = Cond.codeWith (re_yn N y') (re_yb N y') (re_nl G y') (re_rt G y') (re_hh G y') := by
              unfold re_cw
              split
              next z9 => exact absurd z9 (c10 hk)
              next => rfl
            have hcin : Cond.codeWith (re_yn N y') (re_yb N y') (re_nl G y') (re_rt G y') (re_hh G y') ∈ re_ws N G y' := by unfold re_ws; rw [hcwe]; exact List.mem_cons_self
            exact vx_runSX (hh := re_hh G y') (As := (sc.take na).reverse) (rest := sc.drop na) ⟨hx, hb, hml, hown, hts⟩ hMet ⟨⟨rfl, rfl, by dsimp only; omega, by dsimp only; omega, pay_in hts (re_good hG hM), hcin⟩, hts _ ((re_good hG hM) _ hcin).1, hBin _ hM.2.1, ⟨hM.2.2.2.1, hM.2.2.2.2.1⟩, fun sig h9 => by
              have h2 := hM.2.2.2.2.2
              rw [h9] at h2
              exact (Option.some.inj h2).symm, hBin _ (c3 (Or.inr (Or.inr (Or.inr hk)))), hBin _ (c5 (Or.inr (Or.inr hk)))⟩ ⟨re_blind, fun U hU hW9 => hU9 _ U hU hW9⟩ rfl (hlenA hna) hl.1 hsc hroom hdg' (by omega)
      next => cases hgo
    · -- a method of an object
      have hdg' : decode (re_yb N y) pc = .ok (.invokevirtual idx, 3) := hlen.elim (fun q => absurd q (by simp [re_len])) (fun q => by rw [hdg, q]; rfl)
      obtain ⟨-, c2, c3, c4, c5, c6, c7, c8, c9, c10⟩ := o7 _ _ _ _ _ hci
      rw [if_neg (by omega)] at hgo
      split at hgo
      next i r hdr =>
        split at hgo
        next hcond =>
          obtain ⟨hcat, hna, hnl⟩ := hcond
          split at hgo
          next t vs hi =>
            split at hgo
            next htag =>
              split at hgo
              next => cases hgo
              next a ha =>
                have hM := c2 hk3
                have hle := re_res_le hgo
                have hrd := hrl.2
                rw [hdr] at hrd
                obtain ⟨b, rC, hdc, hb9, rs1⟩ := re_rs_r hrd
                have hsc2 : sc = (sc.take na).reverse.reverse ++ .ref b :: rC := by rw [← hdc]; exact hsc
                have hroom : 2 * (F0 m pc ls sc).monitorRoom + (rC.map fun v => v.category).sum ≤ 8 := lv_room (by have := re_cat_c rs1; unfold re_cat at this hcat; omega)
                refine re_call_ok ih hG F (a := a) (st0 := sc) (restC := rC) (rest := r) (ar := (.ref b :: (sc.take na).reverse).toArray) ?_ hl rl rs1 hS hgo hc1 hs1 hmc hms hfr hlo
                have hMet : vx_Met l (re_yn N y') (re_ws N G y') ({ frames := a.2.2.2.2.2.1, cells := a.2.2.2.1, slots := a.2.2.2.2.1, locals := a.2.2.2.2.2.2 }) (re_Pc V N D tys cA B0 (.ref b :: (sc.take na).reverse) (ad0 ++ q) h ws) (re_Q V N D cA B0 (ad0 ++ q) a.1 a.2.1 a.2.2.1) (re_XQ V N D cA B0 (ad0 ++ q) a.1 a.2.2.1) a.2.2.2.1 a.2.2.2.2.1 (fun q => B0 ≤ q) := by
                  split at ha
                  next a9 hpm => cases ha; exact hPM _ _ _ _ hpm _ ws _ ⟨⟨b, hb9, rfl⟩, re_rs_rev hrl.1⟩
                  next => exact re_met ih hM.2.2.1 ha (ad := ad0 ++ q) (ws := ws) (asC := .ref b :: (sc.take na).reverse) ⟨⟨b, hb9, rfl⟩, re_rs_rev hrl.1⟩ hnl
                obtain ⟨hsel, rr, hrr, hrn⟩ := c7 hk
                obtain ⟨b2, e9, k1, k2, k3⟩ := hW.1.2.2.1 i _ hi
                cases hb9.symm.trans k1
                subst htag
                obtain ⟨fs, rfl, -⟩ := re_rE_obj k3 (re_cl_lt o3 hrr)
                have hrecv := va_recv hK hW.2.1 hrr k2
                rw [hrn] at hrecv
                rcases hk with hk | hk
                · exact vx_runV (As := (sc.take na).reverse) (rest := rC) ⟨hx, hb, hml, hown, hts⟩ hMet ⟨callB_of na hts (re_good hG hM) (hwe (c9 hk3 (by omega))) rfl rfl (hBin _ hM.2.1) (hBin _ (c3 (Or.inr (Or.inl hk)))) hM.2.2.2 (by dsimp only; omega), hBin _ (c6 (Or.inl hk)), hBin _ hsel⟩ ⟨re_blind, hrecv, fun U hU hW9 => hU9 _ U hU hW9⟩ rfl (hlenA hna) hl.1 hsc2 hroom hdg' (by omega)
                · obtain ⟨z, hz⟩ := hnest (c4 (Or.inr (Or.inl hk)))
                  exact vx_runVN (As := (sc.take na).reverse) (rest := rC) ⟨hx, hb, hml, hown, hts⟩ hMet ⟨va_cnB na hts (re_good hG hM) (hwe (c9 hk3 (by omega))) rfl rfl hz (hBin _ hM.2.1) hM.2.2.2 (by dsimp only; omega), hBin _ (c6 (Or.inr (Or.inr (Or.inl hk)))), hBin _ hsel⟩ ⟨re_blind, hrecv, fun U hU hW9 => hU9 _ U hU hW9⟩ rfl (hlenA hna) hl.1 hsc2 hroom hdg' (by omega)
            next => cases hgo
          next => cases hgo
        next => cases hgo
      next => cases hgo
    · -- a constructor
      have hdg' : decode (re_yb N y) pc = .ok (.invokespecial idx, 3) := hlen.elim (fun q => absurd q (by simp [re_len])) (fun q => by rw [hdg, q]; rfl)
      obtain ⟨-, c2, c3, c4, c5, c6, c7, c8, c9, c10⟩ := o7 _ _ _ _ _ hci
      have hk : k = 2 ∨ k = 6 := by omega
      rw [if_neg (by omega)] at hgo
      split at hgo
      next i r hdr =>
        split at hgo
        next hcond =>
          obtain ⟨hcat, hna, hnl⟩ := hcond
          split at hgo
          next t vs hi =>
            split at hgo
            next htag =>
              split at hgo
              next => cases hgo
              next a ha =>
                have hM := c2 hk3
                have hle := re_res_le hgo
                have hrd := hrl.2
                rw [hdr] at hrd
                obtain ⟨b, rC, hdc, hb9, rs1⟩ := re_rs_r hrd
                have hsc2 : sc = (sc.take na).reverse.reverse ++ .ref b :: rC := by rw [← hdc]; exact hsc
                have hroom : 2 * (F0 m pc ls sc).monitorRoom + (rC.map fun v => v.category).sum ≤ 8 := lv_room (by have := re_cat_c rs1; unfold re_cat at this hcat; omega)
                refine re_call_ok ih hG F (a := a) (st0 := sc) (restC := rC) (rest := r) (ar := (.ref b :: (sc.take na).reverse).toArray) ?_ hl rl rs1 hS hgo hc1 hs1 hmc hms hfr hlo
                have hMet : vx_Met l (re_yn N y') (re_ws N G y') ({ frames := a.2.2.2.2.2.1, cells := a.2.2.2.1, slots := a.2.2.2.2.1, locals := a.2.2.2.2.2.2 }) (re_Pc V N D tys cA B0 (.ref b :: (sc.take na).reverse) (ad0 ++ q) h ws) (re_Q V N D cA B0 (ad0 ++ q) a.1 a.2.1 a.2.2.1) (re_XQ V N D cA B0 (ad0 ++ q) a.1 a.2.2.1) a.2.2.2.1 a.2.2.2.2.1 (fun q => B0 ≤ q) := by
                  split at ha
                  next a9 hpm => cases ha; exact hPM _ _ _ _ hpm _ ws _ ⟨⟨b, hb9, rfl⟩, re_rs_rev hrl.1⟩
                  next => exact re_met ih hM.2.2.1 ha (ad := ad0 ++ q) (ws := ws) (asC := .ref b :: (sc.take na).reverse) ⟨⟨b, hb9, rfl⟩, re_rs_rev hrl.1⟩ hnl
                obtain ⟨hin, hrt⟩ := c8 hk
                have hwe2 : re_ws N G y' = Cond.code (re_yn N y') (re_yb N y') (re_nl G y') none :: re_B N := by rw [hwe (c9 hk3 (by omega)), hrt]
                rcases hk with hk | hk
                · exact vx_runI (As := (sc.take na).reverse) (rest := rC) ⟨hx, hb, hml, hown, hts⟩ hMet ⟨callB_of na hts (re_good hG hM) hwe2 rfl rfl (hBin _ hM.2.1) (hBin _ (c3 (Or.inr (Or.inr (Or.inl hk))))) hM.2.2.2 (by dsimp only; omega), hin, hBin _ (c6 (Or.inr (Or.inl hk)))⟩ ⟨re_blind, fun U hU hW9 => hU9 _ U hU hW9⟩ rfl (hlenA hna) hl.1 hsc2 hroom hdg' (by omega)
                · obtain ⟨z, hz⟩ := hnest (c4 (Or.inr (Or.inr hk)))
                  exact vx_runIN (As := (sc.take na).reverse) (rest := rC) ⟨hx, hb, hml, hown, hts⟩ hMet ⟨va_cnB na hts (re_good hG hM) hwe2 rfl rfl hz (hBin _ hM.2.1) hM.2.2.2 (by dsimp only; omega), hin, hBin _ (c6 (Or.inr (Or.inr (Or.inr hk))))⟩ ⟨re_blind, fun U hU hW9 => hU9 _ U hU hW9⟩ rfl (hlenA hna) hl.1 hsc2 hroom hdg' (by omega)
            next => cases hgo
          next => cases hgo
        next => cases hgo
      next => cases hgo
end REA
