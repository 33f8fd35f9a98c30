/-! The two notebooks, and the claim. -/
section ME
variable {h h' : re_H} {b W : Nat}
theorem lk_made (z : mdC h b) : lk h (b + 41) (b + 2) (fun _ => (false, [])) := by
  have k1 : ∀ i, i < 16 → lkF (fun _ => (false, [])) 1 i = 0 := by decide +kernel
  have k3 : ∀ i, i < 12 → lkF (fun _ => (false, [])) 3 i = 0 := by decide +kernel
  have k4 : ∀ i, i < 12 → lkF (fun _ => (false, [])) 4 i = 0 := by decide +kernel
  have k5 : ∀ i, i < 12 → lkF (fun _ => (false, [])) 5 i = 0 := by decide +kernel
  have k6 : ∀ i, i < 12 → lkF (fun _ => (false, [])) 6 i = 0 := by decide +kernel
  refine ⟨fun _ _ => 0, z, fun j i h1 h6 hi hn => ?_⟩
  rcases (show j = 1 ∨ j = 2 ∨ j = 3 ∨ j = 4 ∨ j = 5 ∨ j = 6 by omega) with rfl | rfl | rfl | rfl | rfl | rfl
  · exact (k1 i hi).symm
  · obtain ⟨c, _, hc⟩ := hn rfl
    exact absurd rfl hc
  · exact (k3 i hi).symm
  · exact (k4 i hi).symm
  · exact (k5 i hi).symm
  · exact (k6 i hi).symm
theorem made_NB (z : made h b) (hb : b + 300 < 603) (hl : 603 ≤ h.1) : NB h b (A00 0 1) [] 0 W := by
  obtain ⟨z0, zA, zB, zC, ⟨zD1, zD2⟩, zE, zF, zG, zH, zI, zJ⟩ := z
  have zD3 : re_hg h (b + 49) = some (101, lst 4 (fun _ => .long 0)) := by rw [← rep_lst]; exact zD2
  refine ⟨z0, ⟨List.replicate 20 .null, zA, List.length_replicate, Nat.zero_le _, fun i e y => (by cases y), fun i _ hi => ?_⟩, ⟨List.replicate 4 .null, zJ, List.length_replicate, Nat.zero_le _, fun i U y => (by cases y), fun i _ hi => ?_⟩, ⟨E00, [], 0, 0, 0, ⟨⟨zB, lk_made zC, zD1, zD3, zH, zI⟩, zE, ⟨⟨⟨.null, .null, zF, rfl, rfl⟩, List.nodup_nil, List.nodup_nil, fun x y => (by cases y), fun x y => (by cases y), rfl, fun x y => (by cases y)⟩, fun x y => False.elim y⟩, ⟨fun t ht => absurd ht (Nat.not_lt_zero t), fun t u ht => absurd ht (Nat.not_lt_zero t), by decide⟩, zG, fun x y => (by cases y), by omega⟩, Nat.le_refl _, rfl, ⟨fun x y => False.elim y, fun r hr => ?_⟩, Nat.zero_le _, Nat.zero_le _, Nat.zero_le _⟩, fun x y => (by cases y), hb, hl, ⟨Nat.zero_le _, Nat.zero_le _⟩, ⟨fun c hc q y => (by cases y), fun i n v y => (by cases y)⟩, Nat.zero_lt_one, fun e y => (by cases y), fun U y => (by cases y)⟩
  · rw [List.getElem?_replicate, if_pos hi]
  · rw [List.getElem?_replicate, if_pos hi]
  · unfold cn
    exact Nat.zero_le 320
theorem made_m {n : Nat} (m : ∀ S : Nat → Prop, mo S n h h') (z : made h b) : made h' b := by
  obtain ⟨z0, zA, zB, zC, zD, zE, zF, zG, zH, zI, zJ⟩ := z
  have m1 := m (fun a => a = b)
  exact ⟨mo_g (m (fun _ => False)) id z0, mdA_m m1 zA, mdB_m m1 zB, mdC_m m1 zC, mdD_m m1 zD, mdE_m m1 zE, mdF_m m1 zF, mdG_m m1 zG, mdH_m m1 zH, mdI_m m1 zI, mo_g (m (fun _ => False)) id zJ⟩
end ME
theorem law588 {SC : List Value} (hl : SC.length < 2147483648) (hS : ∀ i, i < SC.length → ∃ v : Int32, SC[i]? = some (.int v)) : wp SC 588 40 7746 0 [(0, .retAddr 2)] [] re_h0 (fun k v h' => k = 1 ∧ v = .int 1 ∧ h'.1 ≤ 592715) := by
  have p0 : re_h0.1 = 0 := rfl
  refine M588_0 (a0 := 0) ?_
  rw [p0]
  have g0 := new_g (c := (0, [.null, .int 0, .null, .int 0, .null, .null, .null, .null, .int 0, .null, .int 0])) p0
  refine N588_3 g0 rfl (s1 := 0 + 1351) (s2 := 6395) (by omega) (c0 (q := 0) g0 (by rw [hq_1, p0]) (fun h1 y1 m1 p1 => ret0 ?_))
  have p1 : h1.1 = 301 := p1
  refine M588_7 ?_
  rw [p1]
  have g1 := new_g (c := (0, [.null, .int 0, .null, .int 0, .null, .null, .null, .null, .int 0, .null, .int 0])) p1
  refine N588_11 g1 rfl (s1 := 0 + 1351) (s2 := 5044) (by omega) (c0 (q := 0) g1 (by rw [hq_1, p1]) (fun h2 y2 m2 p2 => ret0 ?_))
  have p2 : h2.1 = 602 := p2
  refine M588_15 (i := 5) (s' := 5044) rfl (by omega) (by omega) (by omega) ?_
  rw [p2]
  have q1 : ∀ S : Nat → Prop, mo S 301 h1 h2 := fun S => mo_new m2 p1 (by omega)
  have q2 : ∀ S : Nat → Prop, mo S 1 h2 (re_hq h2 (100, List.replicate 5 (.int 0))) := fun S => ⟨kp_hq, xk_hq, Nat.le_refl _⟩
  have q3 : (re_hq h2 (100, List.replicate 5 (.int 0))).1 = 603 := by rw [hq_1, p2]
  exact x588s hl hS (made_NB (made_m q2 (made_m q1 y1)) (by omega) (by omega)) (made_NB (made_m q2 y2) (by omega) (by omega)) (new_g p2) q3 (fun h' A A' N N' ff zz ds y hz => ⟨rfl, rfl, JH_len y hz⟩)
theorem rO_sok {A1 : Nat → Nat} {ρ : Nat → Int32} {σ : Nat → Int64} {L : Nat} {xs : Nat → Int32} : re_Sok ((A1, ρ, σ, L, xs) : re_V) ((List.range L).map (fun j => .int (xs j))) := by
  refine ⟨by rw [List.length_map, List.length_range], fun ad j v hv => ?_⟩
  rcases Nat.lt_or_ge j L with g | g
  · rw [List.getElem?_map, List.getElem?_range g] at hv
    cases hv
    exact rfl
  · rw [List.getElem?_eq_none (by rw [List.length_map, List.length_range]; exact g)] at hv
    cases hv
theorem whole_start {p : Program} {e : Env} {s : State} {m : MethodId} {below : List Frame} {meth : Method} {c : Code} (l : Launch) (hflags : l.flags = flags0) {b L : Nat} {xs : Nat → Int32} (hL : L ≤ 260) (C0 : lw_At p s m meth c b L xs) (hcw : (Cond.code x code maxLocals ret).before #[Value.ref b] s = true) (hname : meth.name = "law") (hexc : c.exceptionTable.toList = []) : W p l e room_1 s m #[Value.ref b] below meth c s.heap [] 0 0 (lw_Z below #[Value.ref b] s) (entryFrame m ([Value.ref b] : List Value).toArray 9) := by
  obtain ⟨hx, hb, hr, hml, hown, hts, hX, hbl, hlocks, hgv⟩ := C0
  have hst : l.stackTraces = false := by
    unfold Launch.stackTraces
    rw [hflags]
    decide +kernel
  obtain ⟨n, res, hgo, ⟨b1, b2, b3, b4, b5⟩, r1, r2, r3⟩ := law588 (SC := (List.range L).map (fun j => .int (xs j))) (by rw [List.length_map, List.length_range]; omega) (fun i hi => ⟨xs i, by
    rw [List.length_map, List.length_range] at hi
    rw [List.getElem?_map, List.getElem?_range hi]
    rfl⟩)
  have p0 : re_h0.1 = 0 := rfl
  rw [p0] at b1 b2
  have k1 : res.2.2.2.1 ≤ 600461 := by omega
  have k2 : res.2.2.2.2.1 ≤ 6620563 := by omega
  exact rLaw (O := rO ((List.range L).map (fun j => .int (xs j)))) l hst hx hb hr hml hown hts hX hbl hlocks hgv hcw hname hexc xs (fun _ => 0) (fun A1 cd u v b x y h => by cases h) (fun A1 ins u v r ad cu cv h => by cases h) (fun A1 => rO_sok) (fun A1 D tys cA hE y' as h a hp => by cases hp) hgo r1 r2 (Nat.le_trans k1 (by decide)) (Nat.le_trans k2 (by decide)) (Nat.le_trans b4 (by decide)) (Nat.le_trans b5 (by decide))
set_option maxHeartbeats 4000000 in
theorem lw_walk (l : Launch) (hflags : l.flags = flags0) (b : Addr) (xs : List Int32) : MetFree l x (headSpec (Jvm.Cond.code x code maxLocals ret :: tables_1) room_1) (lw_P b xs) (fun _ _ _ _ _ => True) lw_Q := by
  refine MetFree.of_bodyS (code := code) (maxLocals := maxLocals) (ret := ret) (by decide) ?_ ?_
  · intro args s m h hn
    obtain ⟨meth, c, h1, h2, h3, h4, h5, h6, -, -⟩ := Cond.code_spec hn (atoms_spec (ws := Jvm.Cond.code x code maxLocals ret :: tables_1) h _ List.mem_cons_self)
    exact ⟨meth, c, h1, h2, h3, h4, h5, h6⟩
  · intro p e s m args below meth c s₁ B hml0 hP _
    obtain ⟨rfl, hx, hbd, hgv⟩ := hP
    obtain ⟨scr, harrAt, hlist, hof, hsmall⟩ := hx
    obtain ⟨hcb, hkn, -, -⟩ := State.arrayAt?_spec harrAt
    have hown : s.vm.findClass R_law = some m.cls := findClass_of_methodNamed B.named
    have hts0 : ∀ c ∈ (Jvm.Cond.code x code maxLocals ret :: tables_1), c.before #[Value.ref b] s = true := atoms_spec (ws := Jvm.Cond.code x code maxLocals ret :: tables_1) B.pre
    have hts : ∀ w ∈ lw_tbl, w.before #[Value.ref b] s = true := k2_hts_sels lw_privs (fun w hw => hts0 w (List.mem_cons_of_mem _ hw)) lw_privs_ok
    have hml : c.maxLocals = 9 := B.maxLocals_eq (hts0 _ List.mem_cons_self)
    have X₀ : Stand p l e room_1 s m #[Value.ref b] below meth c s₁ [] 0 0 := Stand.of_body B
    have ht9 : c.exceptionTable.toList = [] := by
      obtain ⟨meth9, c9, g1, g2, -, -, -, -, g7, -⟩ := Cond.code_spec B.named (hts0 _ List.mem_cons_self)
      cases Option.some.inj (g1.symm.trans B.method)
      cases Option.some.inj (g2.symm.trans X₀.code)
      rw [Array.isEmpty_iff.mp g7]
    have hh0 : s₁.heap = s.heap := by rw [B.state]; rfl
    have hsz : scr.slots.size = xs.length := by rw [← Array.length_toList, hlist, List.length_map]
    have hval : ∀ j : Nat, j < xs.length → scr.slots[j]? = some (.int (xs.getD j 0)) := fun j hj => by
      rw [← Array.getElem?_toList, hlist]
      simp [hj]
    have hbl : b < s.heap.size := (Array.getElem?_eq_some_iff.mp hcb).1
    have hX : va_X b xs.length (fun j => xs.getD j 0) s s.heap := ⟨scr, hcb, hof, hkn, hsz, hval⟩
    have K : W p l e room_1 s m #[Value.ref b] below meth c s₁.heap [] 0 0 (lw_Z below #[Value.ref b] s) (entryFrame m ([Value.ref b] : List Value).toArray 9) := by
      rw [hh0]
      exact whole_start l hflags hbd ⟨B.exec, B.bytes, B.returns, hml, hown, hts, hX, hbl, B.notSynchronized, hgv⟩ (hts0 _ List.mem_cons_self) (name_of_methodNamed B.named B.method).1 ht9
    obtain ⟨t, a1, o, b1, b2, b3⟩ := K s₁ rfl X₀
    exact ⟨t, o, a1, b1, b2, b3⟩
theorem lw_pre_spec {args : Array Value} {s : State} (h : (Jvm.Cond.and given_1 narrow_1).before args s = true) (hr : rest_1_c.before args s = true) : ∃ (b : Addr) (xs : List Int32), lw_P b xs args s := by
  have hs := flat_of_before _ h
  have hq := flat_of_before _ hr
  have hc : (Cond.count 1).before args s = true := hs _ (by decide +kernel)
  have harr : (Cond.arrayOf (.arg 0) .int).before args s = true := hs _ (by decide +kernel)
  have hle : (Cond.le (.length (.arg 0)) (.int 260)).before args s = true := hs _ (by decide +kernel)
  have hlen : (Cond.isInt (.length (.arg 0))).before args s = true := hq _ (by decide +kernel)
  have hall : (Cond.all (.arg 0) (.isInt (.elem (.arg 0) (.index 0)))).before args s = true := hq _ (by decide +kernel)
  obtain ⟨b, xs, hb, hx⟩ := State.ints_of_pre rfl harr hlen hall
  have hsm : xs.length < 2 ^ 31 := hx.choose_spec.2.2.2
  have hev : (Term.length (.arg 0)).eval args s none [] s = some (.int xs.length.toInt32) := hx.length_eval hb
  have hv := Cond.le_ints hev (show (Term.int 260).eval args s none [] s = some (.int 260) from rfl)
  have hd : xs.length.toInt32 ≤ 260 := by
    simpa [Cond.before, Cond.holds, hv] using hle
  have hN : xs.length ≤ 260 := (Int32.ofNat_le_ofNat hsm (by decide)).mp (show Int32.ofNat xs.length ≤ Int32.ofNat 260 from hd)
  exact ⟨b, xs, Cond.one_arg hc (show args[0]? = some (.ref b) from hb), hx, hN, h⟩
theorem lw_comes (l : Launch) (hflags : l.flags = flags0) : Comes l x (Jvm.Cond.code x code maxLocals ret :: tables_1) room_1 (fun tb e args s => Calls_1 tb e args s ∧ rest_1 tb e args s ∧ Pre_1 tb e args s)
    (fun _ _ args s o t => lw_Q args s o t) := by
  intro p e ha hc hk s m args below hf hfit hheap happ hpre
  obtain ⟨b, xs, hP⟩ := lw_pre_spec hpre.2.2 hpre.2.1
  obtain ⟨k, o, h1, h2, h3, hQ⟩ := lw_walk l hflags b xs p e ha hc hk s m args below hf ((Spec.applies_iff_loose hf).mp happ).1 hP trivial
  exact ⟨k, o, h1, h2, h3, hQ⟩
theorem lw_frame {s t : State} {o : Outcome} {args : Array Value} (h : Framed s o t [] room_1.cells room_1.slots) :
    Framed s o t (fieldLocs frame_1_writes args s ++ arrayLocs frame_1_arrays args s ++ staticLocs frame_1_statics s) room_1.cells room_1.slots := h
theorem lw_limb (L : Cond) (hL : ∀ (args : Array Value) (s t : State), L.after args s (.returned (some (.int 1))) t = true) :
    ArmFor flags0 classFile x code maxLocals ret World_1 tables_1 room_1 Calls_1 rest_1 Pre_1
      (fun tb e a s o t => postC L tb e a s o t ∧ Framed s o t (fieldLocs frame_1_writes a s ++ arrayLocs frame_1_arrays a s ++ staticLocs frame_1_statics s) room_1.cells room_1.slots) := by
  intro l hflags _ _ p e ha hc hk s m args below hf hfit hheap happ hpre
  obtain ⟨k, o, h1, h2, h3, rfl, hF⟩ := lw_comes l hflags p e ha hc hk s m args below hf hfit hheap happ hpre
  exact ⟨k, _, h1, h2, h3, hL args s _, lw_frame hF⟩
theorem i_vc : Claimed_1_1 ∧ Claimed_1_2 := ⟨lw_limb limb_1_1 (fun args s t => by simp [limb_1_1, Cond.after, Cond.holds, Cond.value]), lw_limb limb_1_2 (fun args s t => Cond.after_iff.mpr (by
  first | (rw [show limb_1_2 = Cond.eq .result (.int 1) from rfl, Cond.eq_ints (x := 1) (y := 1) rfl rfl]; simp; done) | (simp [limb_1_2, Cond.value, Term.eval]; done)))⟩
