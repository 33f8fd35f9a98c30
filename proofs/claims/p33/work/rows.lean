section
-- ===== PART A: goes FIRST, ahead of the names: the tables' words, and 'selects' of the private methods out of them =====
/-- a private method of a class that the tables say can be made, by its rows of tables_1 -/
def lw_okq (q : MethodName × Nat) : Prop := (q.1.cls ≠ "java/lang/invoke/MethodHandle" ∧ q.1.cls ≠ "java/lang/invoke/VarHandle") ∧ Cond.instantiable q.1.cls q.2 ∈ tables_1 ∧ Cond.privateMethod q.1 ∈ tables_1 ∧ Cond.instanceMethod q.1 ∈ tables_1
theorem lw_p0 : lw_okq (⟨"Cellbrook", "needRoomOnPile", "()V"⟩, 11) := ⟨⟨by decide +kernel, by decide +kernel⟩, List.mem_of_getElem? (i := 21) (by decide +kernel), List.mem_of_getElem? (i := 336) (by decide +kernel), List.mem_of_getElem? (i := 337) (by decide +kernel)⟩
theorem lw_p1 : lw_okq (⟨"java/lang/Throwable", "fillInStackTrace", "(I)Ljava/lang/Throwable;"⟩, 6) := ⟨⟨by decide +kernel, by decide +kernel⟩, List.mem_of_getElem? (i := 378) (by decide +kernel), List.mem_of_getElem? (i := 376) (by decide +kernel), List.mem_of_getElem? (i := 377) (by decide +kernel)⟩
theorem lw_p2 : lw_okq (⟨"Cellbrook", "putOnPile", "(LCellbrook$Expr;)I"⟩, 11) := ⟨⟨by decide +kernel, by decide +kernel⟩, List.mem_of_getElem? (i := 21) (by decide +kernel), List.mem_of_getElem? (i := 458) (by decide +kernel), List.mem_of_getElem? (i := 459) (by decide +kernel)⟩
theorem lw_p3 : lw_okq (⟨"Cellbrook", "needName", "(I)V"⟩, 11) := ⟨⟨by decide +kernel, by decide +kernel⟩, List.mem_of_getElem? (i := 21) (by decide +kernel), List.mem_of_getElem? (i := 466) (by decide +kernel), List.mem_of_getElem? (i := 467) (by decide +kernel)⟩
theorem lw_p4 : lw_okq (⟨"Cellbrook", "needInput", "(I)V"⟩, 11) := ⟨⟨by decide +kernel, by decide +kernel⟩, List.mem_of_getElem? (i := 21) (by decide +kernel), List.mem_of_getElem? (i := 490) (by decide +kernel), List.mem_of_getElem? (i := 491) (by decide +kernel)⟩
theorem lw_p5 : lw_okq (⟨"Cellbrook", "needParts", "(I)V"⟩, 11) := ⟨⟨by decide +kernel, by decide +kernel⟩, List.mem_of_getElem? (i := 21) (by decide +kernel), List.mem_of_getElem? (i := 499) (by decide +kernel), List.mem_of_getElem? (i := 500) (by decide +kernel)⟩
theorem lw_p6 : lw_okq (⟨"Cellbrook", "takeFromPile", "()LCellbrook$Expr;"⟩, 11) := ⟨⟨by decide +kernel, by decide +kernel⟩, List.mem_of_getElem? (i := 21) (by decide +kernel), List.mem_of_getElem? (i := 505) (by decide +kernel), List.mem_of_getElem? (i := 506) (by decide +kernel)⟩
theorem lw_p7 : lw_okq (⟨"Cellbrook$Links", "followDefinitions", "()V"⟩, 7) := ⟨⟨by decide +kernel, by decide +kernel⟩, List.mem_of_getElem? (i := 74) (by decide +kernel), List.mem_of_getElem? (i := 554) (by decide +kernel), List.mem_of_getElem? (i := 555) (by decide +kernel)⟩
theorem lw_p8 : lw_okq (⟨"Cellbrook$Links", "followReads", "()V"⟩, 7) := ⟨⟨by decide +kernel, by decide +kernel⟩, List.mem_of_getElem? (i := 74) (by decide +kernel), List.mem_of_getElem? (i := 558) (by decide +kernel), List.mem_of_getElem? (i := 559) (by decide +kernel)⟩
theorem lw_p9 : lw_okq (⟨"Cellbrook$Links", "followNeeds", "()V"⟩, 7) := ⟨⟨by decide +kernel, by decide +kernel⟩, List.mem_of_getElem? (i := 74) (by decide +kernel), List.mem_of_getElem? (i := 566) (by decide +kernel), List.mem_of_getElem? (i := 567) (by decide +kernel)⟩
theorem lw_p10 : lw_okq (⟨"Cellbrook$Links", "wrongOf", "(I)I"⟩, 7) := ⟨⟨by decide +kernel, by decide +kernel⟩, List.mem_of_getElem? (i := 74) (by decide +kernel), List.mem_of_getElem? (i := 570) (by decide +kernel), List.mem_of_getElem? (i := 571) (by decide +kernel)⟩
theorem lw_p11 : lw_okq (⟨"Cellbrook", "cellsAtOnce", "()I"⟩, 11) := ⟨⟨by decide +kernel, by decide +kernel⟩, List.mem_of_getElem? (i := 21) (by decide +kernel), List.mem_of_getElem? (i := 578) (by decide +kernel), List.mem_of_getElem? (i := 579) (by decide +kernel)⟩
theorem lw_p12 : lw_okq (⟨"Cellbrook$Sheet", "isStaleByItself", "(I)Z"⟩, 5) := ⟨⟨by decide +kernel, by decide +kernel⟩, List.mem_of_getElem? (i := 254) (by decide +kernel), List.mem_of_getElem? (i := 590) (by decide +kernel), List.mem_of_getElem? (i := 591) (by decide +kernel)⟩
theorem lw_p13 : lw_okq (⟨"Cellbrook$Sheet", "source", "(I)LCellbrook$Result;"⟩, 5) := ⟨⟨by decide +kernel, by decide +kernel⟩, List.mem_of_getElem? (i := 254) (by decide +kernel), List.mem_of_getElem? (i := 618) (by decide +kernel), List.mem_of_getElem? (i := 619) (by decide +kernel)⟩
theorem lw_p14 : lw_okq (⟨"Cellbrook$Sheet", "kindIn", "(LCellbrook$Result;I)I"⟩, 5) := ⟨⟨by decide +kernel, by decide +kernel⟩, List.mem_of_getElem? (i := 254) (by decide +kernel), List.mem_of_getElem? (i := 622) (by decide +kernel), List.mem_of_getElem? (i := 623) (by decide +kernel)⟩
theorem lw_p15 : lw_okq (⟨"Cellbrook$Result", "placeOf", "(I)I"⟩, 11) := ⟨⟨by decide +kernel, by decide +kernel⟩, List.mem_of_getElem? (i := 129) (by decide +kernel), List.mem_of_getElem? (i := 630) (by decide +kernel), List.mem_of_getElem? (i := 631) (by decide +kernel)⟩
def lw_privs_1 : List (MethodName × Nat) := [(⟨"Cellbrook", "needRoomOnPile", "()V"⟩, 11), (⟨"java/lang/Throwable", "fillInStackTrace", "(I)Ljava/lang/Throwable;"⟩, 6), (⟨"Cellbrook", "putOnPile", "(LCellbrook$Expr;)I"⟩, 11), (⟨"Cellbrook", "needName", "(I)V"⟩, 11), (⟨"Cellbrook", "needInput", "(I)V"⟩, 11), (⟨"Cellbrook", "needParts", "(I)V"⟩, 11), (⟨"Cellbrook", "takeFromPile", "()LCellbrook$Expr;"⟩, 11), (⟨"Cellbrook$Links", "followDefinitions", "()V"⟩, 7), (⟨"Cellbrook$Links", "followReads", "()V"⟩, 7), (⟨"Cellbrook$Links", "followNeeds", "()V"⟩, 7), (⟨"Cellbrook$Links", "wrongOf", "(I)I"⟩, 7), (⟨"Cellbrook", "cellsAtOnce", "()I"⟩, 11), (⟨"Cellbrook$Sheet", "isStaleByItself", "(I)Z"⟩, 5), (⟨"Cellbrook$Sheet", "source", "(I)LCellbrook$Result;"⟩, 5), (⟨"Cellbrook$Sheet", "kindIn", "(LCellbrook$Result;I)I"⟩, 5), (⟨"Cellbrook$Result", "placeOf", "(I)I"⟩, 11)]
theorem lw_r1 : ∀ q ∈ lw_privs_1, lw_okq q := List.forall_mem_cons.mpr ⟨lw_p0, List.forall_mem_cons.mpr ⟨lw_p1, List.forall_mem_cons.mpr ⟨lw_p2, List.forall_mem_cons.mpr ⟨lw_p3, List.forall_mem_cons.mpr ⟨lw_p4, List.forall_mem_cons.mpr ⟨lw_p5, List.forall_mem_cons.mpr ⟨lw_p6, List.forall_mem_cons.mpr ⟨lw_p7, List.forall_mem_cons.mpr ⟨lw_p8, List.forall_mem_cons.mpr ⟨lw_p9, List.forall_mem_cons.mpr ⟨lw_p10, List.forall_mem_cons.mpr ⟨lw_p11, List.forall_mem_cons.mpr ⟨lw_p12, List.forall_mem_cons.mpr ⟨lw_p13, List.forall_mem_cons.mpr ⟨lw_p14, List.forall_mem_cons.mpr ⟨lw_p15, fun _ h => absurd h List.not_mem_nil⟩⟩⟩⟩⟩⟩⟩⟩⟩⟩⟩⟩⟩⟩⟩⟩
theorem lw_p16 : lw_okq (⟨"Cellbrook$Sheet", "markIn", "(LCellbrook$Result;I)J"⟩, 5) := ⟨⟨by decide +kernel, by decide +kernel⟩, List.mem_of_getElem? (i := 254) (by decide +kernel), List.mem_of_getElem? (i := 634) (by decide +kernel), List.mem_of_getElem? (i := 635) (by decide +kernel)⟩
theorem lw_p17 : lw_okq (⟨"Cellbrook$Result", "clearKept", "()V"⟩, 11) := ⟨⟨by decide +kernel, by decide +kernel⟩, List.mem_of_getElem? (i := 129) (by decide +kernel), List.mem_of_getElem? (i := 654) (by decide +kernel), List.mem_of_getElem? (i := 655) (by decide +kernel)⟩
theorem lw_p18 : lw_okq (⟨"Cellbrook$Store", "reach", "(LCellbrook$Node;)V"⟩, 6) := ⟨⟨by decide +kernel, by decide +kernel⟩, List.mem_of_getElem? (i := 177) (by decide +kernel), List.mem_of_getElem? (i := 674) (by decide +kernel), List.mem_of_getElem? (i := 675) (by decide +kernel)⟩
theorem lw_p19 : lw_okq (⟨"Cellbrook$Store", "takeBack", "()V"⟩, 6) := ⟨⟨by decide +kernel, by decide +kernel⟩, List.mem_of_getElem? (i := 177) (by decide +kernel), List.mem_of_getElem? (i := 679) (by decide +kernel), List.mem_of_getElem? (i := 680) (by decide +kernel)⟩
theorem lw_p20 : lw_okq (⟨"Cellbrook$Sheet", "readAll", "(ILCellbrook$Result;)Z"⟩, 5) := ⟨⟨by decide +kernel, by decide +kernel⟩, List.mem_of_getElem? (i := 254) (by decide +kernel), List.mem_of_getElem? (i := 683) (by decide +kernel), List.mem_of_getElem? (i := 684) (by decide +kernel)⟩
theorem lw_p21 : lw_okq (⟨"Cellbrook$Machine", "later", "(LCellbrook$Expr;LCellbrook$Node;Z)V"⟩, 14) := ⟨⟨by decide +kernel, by decide +kernel⟩, List.mem_of_getElem? (i := 202) (by decide +kernel), List.mem_of_getElem? (i := 744) (by decide +kernel), List.mem_of_getElem? (i := 745) (by decide +kernel)⟩
theorem lw_p22 : lw_okq (⟨"Cellbrook$Machine", "end", "(LCellbrook$Expr;LCellbrook$Node;)Z"⟩, 14) := ⟨⟨by decide +kernel, by decide +kernel⟩, List.mem_of_getElem? (i := 202) (by decide +kernel), List.mem_of_getElem? (i := 749) (by decide +kernel), List.mem_of_getElem? (i := 750) (by decide +kernel)⟩
theorem lw_p23 : lw_okq (⟨"Cellbrook$Machine", "endDraw", "()Z"⟩, 14) := ⟨⟨by decide +kernel, by decide +kernel⟩, List.mem_of_getElem? (i := 202) (by decide +kernel), List.mem_of_getElem? (i := 753) (by decide +kernel), List.mem_of_getElem? (i := 754) (by decide +kernel)⟩
theorem lw_p24 : lw_okq (⟨"Cellbrook$Machine", "give", "(JLCellbrook$Node;)Z"⟩, 14) := ⟨⟨by decide +kernel, by decide +kernel⟩, List.mem_of_getElem? (i := 202) (by decide +kernel), List.mem_of_getElem? (i := 763) (by decide +kernel), List.mem_of_getElem? (i := 764) (by decide +kernel)⟩
theorem lw_p25 : lw_okq (⟨"Cellbrook$Machine", "endTwo", "(I)Z"⟩, 14) := ⟨⟨by decide +kernel, by decide +kernel⟩, List.mem_of_getElem? (i := 202) (by decide +kernel), List.mem_of_getElem? (i := 767) (by decide +kernel), List.mem_of_getElem? (i := 768) (by decide +kernel)⟩
theorem lw_p26 : lw_okq (⟨"Cellbrook$Machine", "endChoice", "(LCellbrook$Expr;LCellbrook$Node;)Z"⟩, 14) := ⟨⟨by decide +kernel, by decide +kernel⟩, List.mem_of_getElem? (i := 202) (by decide +kernel), List.mem_of_getElem? (i := 771) (by decide +kernel), List.mem_of_getElem? (i := 772) (by decide +kernel)⟩
theorem lw_p27 : lw_okq (⟨"Cellbrook$Machine", "endLocal", "(LCellbrook$Expr;LCellbrook$Node;)Z"⟩, 14) := ⟨⟨by decide +kernel, by decide +kernel⟩, List.mem_of_getElem? (i := 202) (by decide +kernel), List.mem_of_getElem? (i := 775) (by decide +kernel), List.mem_of_getElem? (i := 776) (by decide +kernel)⟩
theorem lw_p28 : lw_okq (⟨"Cellbrook$Machine", "endCall", "()Z"⟩, 14) := ⟨⟨by decide +kernel, by decide +kernel⟩, List.mem_of_getElem? (i := 202) (by decide +kernel), List.mem_of_getElem? (i := 779) (by decide +kernel), List.mem_of_getElem? (i := 780) (by decide +kernel)⟩
theorem lw_p29 : lw_okq (⟨"Cellbrook$Machine", "begin", "(LCellbrook$Expr;LCellbrook$Node;)Z"⟩, 14) := ⟨⟨by decide +kernel, by decide +kernel⟩, List.mem_of_getElem? (i := 202) (by decide +kernel), List.mem_of_getElem? (i := 783) (by decide +kernel), List.mem_of_getElem? (i := 784) (by decide +kernel)⟩
theorem lw_p30 : lw_okq (⟨"Cellbrook$Machine", "giveNamed", "(ILCellbrook$Node;)Z"⟩, 14) := ⟨⟨by decide +kernel, by decide +kernel⟩, List.mem_of_getElem? (i := 202) (by decide +kernel), List.mem_of_getElem? (i := 787) (by decide +kernel), List.mem_of_getElem? (i := 788) (by decide +kernel)⟩
theorem lw_p31 : lw_okq (⟨"Cellbrook$Machine", "giveFunction", "(LCellbrook$Expr;LCellbrook$Node;)Z"⟩, 14) := ⟨⟨by decide +kernel, by decide +kernel⟩, List.mem_of_getElem? (i := 202) (by decide +kernel), List.mem_of_getElem? (i := 791) (by decide +kernel), List.mem_of_getElem? (i := 792) (by decide +kernel)⟩
def lw_privs_2 : List (MethodName × Nat) := [(⟨"Cellbrook$Sheet", "markIn", "(LCellbrook$Result;I)J"⟩, 5), (⟨"Cellbrook$Result", "clearKept", "()V"⟩, 11), (⟨"Cellbrook$Store", "reach", "(LCellbrook$Node;)V"⟩, 6), (⟨"Cellbrook$Store", "takeBack", "()V"⟩, 6), (⟨"Cellbrook$Sheet", "readAll", "(ILCellbrook$Result;)Z"⟩, 5), (⟨"Cellbrook$Machine", "later", "(LCellbrook$Expr;LCellbrook$Node;Z)V"⟩, 14), (⟨"Cellbrook$Machine", "end", "(LCellbrook$Expr;LCellbrook$Node;)Z"⟩, 14), (⟨"Cellbrook$Machine", "endDraw", "()Z"⟩, 14), (⟨"Cellbrook$Machine", "give", "(JLCellbrook$Node;)Z"⟩, 14), (⟨"Cellbrook$Machine", "endTwo", "(I)Z"⟩, 14), (⟨"Cellbrook$Machine", "endChoice", "(LCellbrook$Expr;LCellbrook$Node;)Z"⟩, 14), (⟨"Cellbrook$Machine", "endLocal", "(LCellbrook$Expr;LCellbrook$Node;)Z"⟩, 14), (⟨"Cellbrook$Machine", "endCall", "()Z"⟩, 14), (⟨"Cellbrook$Machine", "begin", "(LCellbrook$Expr;LCellbrook$Node;)Z"⟩, 14), (⟨"Cellbrook$Machine", "giveNamed", "(ILCellbrook$Node;)Z"⟩, 14), (⟨"Cellbrook$Machine", "giveFunction", "(LCellbrook$Expr;LCellbrook$Node;)Z"⟩, 14)]
theorem lw_r2 : ∀ q ∈ lw_privs_2, lw_okq q := List.forall_mem_cons.mpr ⟨lw_p16, List.forall_mem_cons.mpr ⟨lw_p17, List.forall_mem_cons.mpr ⟨lw_p18, List.forall_mem_cons.mpr ⟨lw_p19, List.forall_mem_cons.mpr ⟨lw_p20, List.forall_mem_cons.mpr ⟨lw_p21, List.forall_mem_cons.mpr ⟨lw_p22, List.forall_mem_cons.mpr ⟨lw_p23, List.forall_mem_cons.mpr ⟨lw_p24, List.forall_mem_cons.mpr ⟨lw_p25, List.forall_mem_cons.mpr ⟨lw_p26, List.forall_mem_cons.mpr ⟨lw_p27, List.forall_mem_cons.mpr ⟨lw_p28, List.forall_mem_cons.mpr ⟨lw_p29, List.forall_mem_cons.mpr ⟨lw_p30, List.forall_mem_cons.mpr ⟨lw_p31, fun _ h => absurd h List.not_mem_nil⟩⟩⟩⟩⟩⟩⟩⟩⟩⟩⟩⟩⟩⟩⟩⟩
theorem lw_p32 : lw_okq (⟨"Cellbrook", "needCell", "(I)V"⟩, 11) := ⟨⟨by decide +kernel, by decide +kernel⟩, List.mem_of_getElem? (i := 21) (by decide +kernel), List.mem_of_getElem? (i := 811) (by decide +kernel), List.mem_of_getElem? (i := 812) (by decide +kernel)⟩
theorem lw_p33 : lw_okq (⟨"Cellbrook", "neededBranch", "(I)LCellbrook$Version;"⟩, 11) := ⟨⟨by decide +kernel, by decide +kernel⟩, List.mem_of_getElem? (i := 21) (by decide +kernel), List.mem_of_getElem? (i := 936) (by decide +kernel), List.mem_of_getElem? (i := 937) (by decide +kernel)⟩
def lw_privs_3 : List (MethodName × Nat) := [(⟨"Cellbrook", "needCell", "(I)V"⟩, 11), (⟨"Cellbrook", "neededBranch", "(I)LCellbrook$Version;"⟩, 11)]
theorem lw_r3 : ∀ q ∈ lw_privs_3, lw_okq q := List.forall_mem_cons.mpr ⟨lw_p32, List.forall_mem_cons.mpr ⟨lw_p33, fun _ h => absurd h List.not_mem_nil⟩⟩
def lw_privs : List (MethodName × Nat) := lw_privs_1 ++ (lw_privs_2 ++ (lw_privs_3))
def lw_tbl : List Cond := k2_sels lw_privs ++ tables_1
theorem lw_privs_ok : ∀ q ∈ lw_privs, lw_okq q := by
  show ∀ q ∈ lw_privs_1 ++ (lw_privs_2 ++ (lw_privs_3)), lw_okq q
  exact List.forall_mem_append.mpr ⟨lw_r1, List.forall_mem_append.mpr ⟨lw_r2, lw_r3⟩⟩
end
section
/-! ===== BEGIN words of one list among another's, by their places ===== -/
theorem goodIn_r {big : List Cond} (ws : List Cond) (ps : List Nat) (hp : ws = ps.filterMap (fun i => big[i]?)) (h : ws.all goodWord = true) : GoodIn big ws := by
  intro w hw
  have h1 := List.all_eq_true.mp h w hw
  rw [hp] at hw
  obtain ⟨i, -, hi⟩ := List.mem_filterMap.mp hw
  have hm : w ∈ big := by first | exact List.mem_of_getElem? hi | exact List.getElem?_mem hi
  exact ⟨hm, good_of_word h1⟩
theorem goodIn_app {big a b : List Cond} (ha : GoodIn big a) (hb : GoodIn big b) : GoodIn big (a ++ b) := fun w h => (List.mem_append.mp h).elim (ha w) (hb w)
theorem goodIn_ca {big a b : List Cond} {c : Cond} (ha : GoodIn big (c :: a)) (hb : GoodIn big b) : GoodIn big (c :: (a ++ b)) := fun w h => (List.mem_cons.mp h).elim (fun e => ha w (List.mem_cons.mpr (Or.inl e))) (fun h => (List.mem_append.mp h).elim (fun h => ha w (List.mem_cons.mpr (Or.inr h))) (hb w))
theorem goodIn_sub {big ws : List Cond} (hm : ∀ w ∈ ws, w ∈ big) (h : ws.all goodWord = true) : GoodIn big ws := fun w hw => ⟨hm w hw, good_of_word (List.all_eq_true.mp h w hw)⟩
/-! ===== END ===== -/
/-! ===== BEGIN exceptions that leave a method, and their catching by the caller (launches without stack traces) ===== -/
section VXA
/-! The laws vx_back, vx_callV, vx_callS, vx_callSW, vx_throw0, vx_throwS follow proofs of the library, with one case more: JvmDerived/Free/Laws.lean (Back.of_free), Shelf42/LK1.lean (callV, callS), Shelf/KitTraced.lean (throwNew0V, throwNewS). -/
/-- where a method has thrown q: the class by its name, the cell, what was written, the world -/
def vx_T (XC : String → State → State → Prop) (st : State) (q : Addr) (t : State) (mc ms : Nat) (free : Addr → Prop) : Prop :=
  ∃ (E : String) (ce : Cell) (L : List Loc), XC E st t ∧ t.heap[q]? = some ce ∧ ce.vm = .none ∧ st.vm.findClass E = some ce.cls ∧ st.WarmedH t.vm ∧ st.sameButNew ({ t with vm := st.vm } : State) L mc ms ∧ ∀ z ∈ L, free z.base
def vx_Q (Qc : Array Value → State → Outcome → State → Prop) (XC : String → State → State → Prop) (mc ms : Nat) (free : Addr → Prop) : Array Value → State → Outcome → State → Prop := fun a st o t =>
  (Qc a st o t ∧ ∃ L, FrameEnd st o t L mc ms ∧ ∀ q ∈ L, free q.base) ∨ ∃ q, o = .threw q ∧ vx_T XC st q t mc ms free
/-- a callee that returns or throws -/
def vx_Met (l : Launch) (y : MethodName) (ws : List Cond) (rm : Room) (Pc : Array Value → State → Prop) (Qc : Array Value → State → Outcome → State → Prop) (XC : String → State → State → Prop) (mc ms : Nat) (free : Addr → Prop) : Prop :=
  MetFree l y (headSpec ws rm) Pc (fun _ _ _ _ _ => True) (vx_Q Qc XC mc ms free)
def vx_Post (XC : String → State → State → Prop) (mc ms : Nat) (free : Addr → Prop) : Pt → Array Value → Addr → Pt → Prop := fun A a q B =>
  ∃ (g : JFrame) (mk : MethodId) (t : State) (L : List Loc) (E : String) (ce : Cell), B.U.heap = t.heap ∧ B.U.vm = t.vm ∧ XC E (A.U.calling g mk a) t ∧ t.heap[q]? = some ce ∧ ce.vm = .none ∧ A.U.vm.findClass E = some ce.cls ∧ B.locs = A.locs ++ L ∧ (∀ z ∈ L, free z.base) ∧ B.cells = A.cells + mc ∧ B.slots = A.slots + ms
def vx_Back (l : Launch) (R : Room) (p : Program) (e : Env) (below : List Frame) (s : State) (sargs : Array Value) (y : MethodName) (len W9 : Nat)
    (Pre : Pt → Array Value → Prop) (Post : Pt → Array Value → Option Value → Pt → Prop) (PostX : Pt → Array Value → Addr → Pt → Prop) : Prop :=
  ∀ (m : MethodId) (meth : Method) (c : Code) (A : Pt) (g : JFrame) (ig : Instr) (mk : MethodId) (a : Array Value),
    Stand p l e R s m sargs below meth c A.U A.locs A.cells A.slots → g.method = m → g.locals.size = c.maxLocals → decode c.code g.pc = .ok (ig, len) →
    2 * g.monitorRoom + (g.stack.map fun v => v.category).sum ≤ W9 → A.U.methodNamed? y = some mk → Pre A a →
    (∃ (v : Option Value) (B : Pt), Stand p l e R s m sargs below meth c B.U B.locs B.cells B.slots ∧ Post A a v B ∧
      Steps p.tables e below (doInvoke e (A.U.setTop g) [] mk a).1 (B.U.setTop { g with pc := g.pc + len, stack := v.toList ++ g.stack })) ∨
    (∃ (q : Addr) (B : Pt), Stand p l e R s m sargs below meth c B.U B.locs B.cells B.slots ∧ PostX A a q B ∧
      Steps p.tables e below (doInvoke e (A.U.setTop g) [] mk a).1 ((B.U.setTop g).pushFrame (.throwing q)))
section Payer
variable {l : Launch} {R : Room} {p : Program} {e : Env} {below : List Frame} {s : State} {sargs : Array Value} {y : MethodName} {len W9 : Nat}
theorem vx_back {ws : List Cond} {rm : Room} {Pc : Array Value → State → Prop} {Qc : Array Value → State → Outcome → State → Prop} {XC : String → State → State → Prop} {mc ms : Nat} {free : Addr → Prop} {bytes : ByteArray} {maxL : Nat} {ret : Option FieldType}
    (hM : vx_Met l y ws rm Pc Qc XC mc ms free) (hblind : FrameBlind Pc) (hrc : rm.cells = mc) (hrs : rm.slots = ms)
    (hframes : rm.frames + 1 ≤ R.frames) (hlocals : W9 + (maxL + 11) + rm.locals ≤ R.locals)
    (hws : ∀ w ∈ ws, ∀ a' U, s.WarmedH U.vm → w.before a' U = true) (hcode : Cond.code y bytes maxL ret ∈ ws) (hinit : ∀ a' U, s.WarmedH U.vm → (Cond.initialized y.cls).before a' U = true) :
    vx_Back l R p e below s sargs y len W9 (PreOf R mc ms Pc) (PostOf Qc mc ms free) (vx_Post XC mc ms free) := by
  intro m meth c A g ig mk a X hg hsize hdg hW hn hp
  have h1 : (headSpec ws rm).pre.before a A.U = true := atoms_intro fun w hw => hws w hw _ _ X.warmed
  have h2 : (Cond.code y bytes maxL ret).before a A.U = true := hws _ hcode _ _ X.warmed
  have h3 : (Cond.initialized y.cls).before a A.U = true := hinit _ _ X.warmed
  have h4 : A.cells + (headSpec ws rm).room.cells ≤ R.cells := by rw [show (headSpec ws rm).room.cells = mc from hrc]; exact hp.1
  have h5 : A.slots + (headSpec ws rm).room.slots ≤ R.slots := by rw [show (headSpec ws rm).room.slots = ms from hrs]; exact hp.2.1
  have hPc : Pc a (A.U.calling g mk a) := hblind _ _ _ _ hp.2.2
  obtain ⟨U, Ls, c0, s0⟩ := A
  dsimp only [Pt.U, Pt.locs, Pt.cells, Pt.slots] at h1 h2 h3 h4 h5 X hn hPc ⊢
  obtain ⟨methY, cY, hmY, hcY, -, hlY, -, -, -, -⟩ := Cond.code_spec hn h2
  obtain ⟨kY, hkY, -⟩ := className_of_methodNamed hn
  have hinitY : kY.init = .initialized := Cond.initialized_spec (findClass_of_methodNamed hn) hkY h3
  have h : At U g.method c below := by rw [hg]; exact X.here
  have hlocals9 : W9 + (maxL + 11) + (headSpec ws rm).room.locals ≤ R.locals := hlocals
  have happ : (headSpec ws rm).appliesLoose y e.platform (U.calling g mk a) = true :=
    Spec.appliesLoose_calling (g := g) h hdg hn hkY hinitY
      (X.room_calling (g := g) (R' := (headSpec ws rm).room) hsize hmY hcY hframes (by rw [hlY]; omega) h4 h5) h1
  obtain ⟨mid, hmid⟩ := h.above
  have hfr : (U.setTop g).frames = (.java g :: mid) ++ below := by rw [State.frames_setTop' g h.top, hmid]; rfl
  obtain ⟨o, s₂, hsteps, -, hend, hq⟩ := Steps.callFree hM p X.admits X.cas X.clock (acts := []) hfr happ hPc trivial
  have hq' : vx_Q Qc XC mc ms free a (U.calling g mk a) o s₂ := hq
  rw [State.frames_setTop' g h.top] at hend
  obtain ⟨g₀, hg0⟩ := Option.isSome_iff_exists.mp h.top
  obtain ⟨r, hr⟩ := State.topJava?_eq_some.mp hg0
  have hr' : (({ U with heap := s₂.heap, slotsUsed := s₂.slotsUsed } : State).setVm s₂.vm).frames = .java g₀ :: r := hr
  rcases hq' with ⟨hqc, L, hfe, hL⟩ | ⟨q, rfl, E, ce, L, hx, hce, hcv, hcl, hW₂, hsm, hL⟩
  · obtain ⟨⟨v, rfl⟩, hW₂, e2, q2, q3, q4, q5, q6⟩ := id hfe
    have e3 : s₂ = ({ (U.calling g mk a).setFrames s₂.frames with heap := s₂.heap, slotsUsed := s₂.slotsUsed } : State).setVm s₂.vm := by
      have : s₂ = ({ s₂ with vm := (U.calling g mk a).vm } : State).setVm s₂.vm := rfl
      rw [e2] at this
      exact this
    obtain ⟨c₂, i₂, len₂, hc₂, hd₂, hf₂⟩ := hend
    have hW' : U.WarmedH s₂.vm := hW₂
    have hcc : c₂ = c := by
      have h1 : s₂.code? g.method = U.code? g.method := by
        rw [State.code?_eq, State.code?_eq, hW'.alike.method?]
      exact Option.some.inj (hc₂.symm.trans (h1.trans h.code))
    subst hcc
    have hlen : len₂ = len := by rw [hdg] at hd₂; cases hd₂; rfl
    subst hlen
    have hs₂ : s₂ = (({ U with heap := s₂.heap, slotsUsed := s₂.slotsUsed } : State).setVm s₂.vm).setTop { g with pc := g.pc + len₂, stack := v.toList ++ g.stack } := by
      refine e3.trans ?_
      rw [hf₂, State.calling_eq h.top, State.setFrames_setFrames, State.setTop_of_frames _ hr', hr]
      rfl
    have hsame : U.sameButNew ({ U with heap := s₂.heap, slotsUsed := s₂.slotsUsed } : State) L mc ms := by
      refine ⟨?_, q2, q3, q4, q5, q6⟩
      obtain ⟨t, ht, -⟩ := State.frames_cons hr
      show ({ U with heap := s₂.heap, slotsUsed := s₂.slotsUsed } : State) = { U.setFrames U.frames with heap := s₂.heap, slotsUsed := s₂.slotsUsed }
      rw [State.setFrames_self ht]
    subst hg
    refine Or.inl ⟨v, ⟨(({ U with heap := s₂.heap, slotsUsed := s₂.slotsUsed } : State).setVm s₂.vm), Ls ++ L, c0 + mc, s0 + ms⟩,
      ⟨X.admits, X.cas, X.clock, X.frames, X.room, X.hears, X.method, X.code, (X.here.setHeapUsed s₂.heap s₂.slotsUsed).setVm hW'.alike, X.tail, State.WarmedH.trans X.warmed hW', X.limits, X.bytes, X.same.trans (hsame.setVm s.vm)⟩,
      ⟨g, mk, s₂, L, rfl, rfl, hqc, rfl, hL, rfl, rfl⟩, ?_⟩
    show Steps p.tables e below _ ((({ U with heap := s₂.heap, slotsUsed := s₂.slotsUsed } : State).setVm s₂.vm).setTop { g with pc := g.pc + len₂, stack := v.toList ++ g.stack })
    rw [← hs₂]
    exact hsteps
  · obtain ⟨e2, q2, q3, q4, q5, q6⟩ := id hsm
    have e3 : s₂ = ({ (U.calling g mk a).setFrames s₂.frames with heap := s₂.heap, slotsUsed := s₂.slotsUsed } : State).setVm s₂.vm := by
      have : s₂ = ({ s₂ with vm := (U.calling g mk a).vm } : State).setVm s₂.vm := rfl
      rw [e2] at this
      exact this
    have hf₂ : s₂.frames = .throwing q :: .java g :: U.frames.tail := hend
    have hW' : U.WarmedH s₂.vm := hW₂
    have hs₂ : s₂ = ((({ U with heap := s₂.heap, slotsUsed := s₂.slotsUsed } : State).setVm s₂.vm).setTop g).pushFrame (.throwing q) := by
      refine e3.trans ?_
      rw [hf₂, State.calling_eq h.top, State.setFrames_setFrames, State.pushFrame, State.frames_setTop _ hr', State.setTop_of_frames _ hr', State.setFrames_setFrames, hr]
      rfl
    have hsame : U.sameButNew ({ U with heap := s₂.heap, slotsUsed := s₂.slotsUsed } : State) L mc ms := by
      refine ⟨?_, q2, q3, q4, q5, q6⟩
      obtain ⟨t, ht, -⟩ := State.frames_cons hr
      show ({ U with heap := s₂.heap, slotsUsed := s₂.slotsUsed } : State) = { U.setFrames U.frames with heap := s₂.heap, slotsUsed := s₂.slotsUsed }
      rw [State.setFrames_self ht]
    subst hg
    refine Or.inr ⟨q, ⟨(({ U with heap := s₂.heap, slotsUsed := s₂.slotsUsed } : State).setVm s₂.vm), Ls ++ L, c0 + mc, s0 + ms⟩,
      ⟨X.admits, X.cas, X.clock, X.frames, X.room, X.hears, X.method, X.code, (X.here.setHeapUsed s₂.heap s₂.slotsUsed).setVm hW'.alike, X.tail, State.WarmedH.trans X.warmed hW', X.limits, X.bytes, X.same.trans (hsame.setVm s.vm)⟩,
      ⟨g, mk, s₂, L, E, ce, rfl, rfl, hx, hce, hcv, hcl, rfl, hL, rfl, rfl⟩, ?_⟩
    show Steps p.tables e below _ (((({ U with heap := s₂.heap, slotsUsed := s₂.slotsUsed } : State).setVm s₂.vm).setTop g).pushFrame (.throwing q))
    rw [← hs₂]
    exact hsteps
end Payer
section Calls
variable {p : Program} {l : Launch} {e : Env} {R : Room} {s : State} {m : MethodId} {args : Array Value} {below : List Frame} {meth : Method} {c : Code} {T : State} {locs : List Loc} {cells slots : Nat}
theorem vx_callV (X : Stand p l e R s m args below meth c T locs cells slots) (hexec : p.tables.exec = Jvm.exec) {own C : String} {index : Nat} {y : MethodName} {bytes : ByteArray} {maxL : Nat} {ret : Option FieldType}
    (hown : s.vm.findClass own = some m.cls) (hlink : (Cond.methodLink own index y).before args s = true) (hinst : (Cond.instanceMethod y).before args s = true) (hsel : (Cond.selects C y y).before args s = true)
    (hcode : (Cond.code y bytes maxL ret).before args s = true) (hy : y.cls ≠ "java/lang/invoke/MethodHandle" ∧ y.cls ≠ "java/lang/invoke/VarHandle")
    {W9 : Nat} {Pre : Pt → Array Value → Prop} {Post : Pt → Array Value → Option Value → Pt → Prop} {PostX : Pt → Array Value → Addr → Pt → Prop} (hK : vx_Back l R p e below s args y 3 W9 Pre Post PostX)
    {b : Addr} {cellB : Cell} (hcell : T.heap[b]? = some cellB) (hobj : cellB.vm.isStatics = false) (hcls : s.vm.findClass C = some cellB.cls)
    {g : JFrame} (hg : g.method = m) (hsize : g.locals.size = c.maxLocals) {argsL rest : List Value} (hlen : ∀ sig, parseMethodDescriptor y.desc = some sig → argsL.length = sig.parameters.length)
    (hstack : g.stack = argsL.reverse ++ .ref b :: rest) (hW : 2 * g.monitorRoom + (rest.map fun v => v.category).sum ≤ W9) (hdg : decode c.code g.pc = .ok (.invokevirtual index, 3))
    (hpre : ∀ vm₁, s.WarmedH vm₁ → Pre ⟨T.setVm vm₁, locs, cells, slots⟩ (Value.ref b :: argsL).toArray) :
    (∃ (v : Option Value) (vm₁ : Vm) (B : Pt), s.WarmedH vm₁ ∧ Stand p l e R s m args below meth c B.U B.locs B.cells B.slots ∧ Post ⟨T.setVm vm₁, locs, cells, slots⟩ (Value.ref b :: argsL).toArray v B ∧
      ∀ target, Steps p.tables e below (B.U.setTop { g with pc := g.pc + 3, stack := v.toList ++ rest }) target → Steps p.tables e below (T.setTop g) target) ∨
    (∃ (q : Addr) (vm₁ : Vm) (B : Pt), s.WarmedH vm₁ ∧ Stand p l e R s m args below meth c B.U B.locs B.cells B.slots ∧ PostX ⟨T.setVm vm₁, locs, cells, slots⟩ (Value.ref b :: argsL).toArray q B ∧
      Steps p.tables e below (T.setTop g) ((B.U.setTop { g with stack := rest }).pushFrame (.throwing q))) := by
  obtain ⟨mk, methM, hnamed, hmethM, hstM, habM⟩ := Cond.instanceMethod_spec hinst
  obtain ⟨methM', cM, hmethM', -, -, -, -, -, -, hsigM⟩ := Cond.code_spec hnamed hcode
  cases hmethM.symm.trans hmethM'
  obtain ⟨c2, r2, m2, q1, q2, q3, q4, kP, hkP, hkPi⟩ := Cond.selects_spec hsel
  cases hcls.symm.trans q1
  cases (State.methodFound?_of_named hnamed hy).symm.trans q2
  cases hnamed.symm.trans q3
  have hselP : selectMethod e.platform s.vm cellB.cls mk = .method mk := by rw [Launch.admits_selectMethod X.admits]; exact q4
  obtain ⟨vm₁, X₁, hstep₁⟩ := X.invokevirtual hexec hown hlink hnamed hmethM hstM hkP hkPi hy (a := b) (cell := cellB) hcell
    (fun z h => by rw [h] at hobj; cases hobj) hselP hmethM habM hkP hkPi (g := g) hg (argsL := argsL) (rest := rest) (hlen _ hsigM) hstack hdg
  rcases hK m meth c ⟨T.setVm vm₁, locs, cells, slots⟩ { g with stack := rest } (.invokevirtual index) mk (Value.ref b :: argsL).toArray X₁ hg hsize hdg hW (X₁.named hnamed) (hpre vm₁ X₁.warmed) with ⟨v, B, X', hpost, hsteps⟩ | ⟨q, B, X', hpost, hsteps⟩
  · exact Or.inl ⟨v, vm₁, B, X₁.warmed, X', hpost, fun target h => hstep₁ _ fun acts => by rw [doInvoke_state]; exact hsteps.trans h⟩
  · exact Or.inr ⟨q, vm₁, B, X₁.warmed, X', hpost, hstep₁ _ fun acts => by rw [doInvoke_state]; exact hsteps⟩
theorem vx_callS (X : Stand p l e R s m args below meth c T locs cells slots) (hexec : p.tables.exec = Jvm.exec) {own : String} {index : Nat} {y : MethodName} {bytes : ByteArray} {maxL : Nat} {ret : Option FieldType}
    (hown : s.vm.findClass own = some m.cls) (hlink : (Cond.methodLink own index y).before args s = true) (hstat : (Cond.static y).before args s = true) (hinit : (Cond.initialized y.cls).before args s = true)
    (hcode : (Cond.code y bytes maxL ret).before args s = true) (hy : y.cls ≠ "java/lang/invoke/MethodHandle" ∧ y.cls ≠ "java/lang/invoke/VarHandle")
    {W9 : Nat} {Pre : Pt → Array Value → Prop} {Post : Pt → Array Value → Option Value → Pt → Prop} {PostX : Pt → Array Value → Addr → Pt → Prop} (hK : vx_Back l R p e below s args y 3 W9 Pre Post PostX)
    {g : JFrame} (hg : g.method = m) (hsize : g.locals.size = c.maxLocals) {argsL rest : List Value} (hlen : ∀ sig, parseMethodDescriptor y.desc = some sig → argsL.length = sig.parameters.length)
    (hstack : g.stack = argsL.reverse ++ rest) (hW : 2 * g.monitorRoom + (rest.map fun v => v.category).sum ≤ W9) (hdg : decode c.code g.pc = .ok (.invokestatic index, 3))
    (hpre : ∀ vm₁, s.WarmedH vm₁ → Pre ⟨T.setVm vm₁, locs, cells, slots⟩ argsL.toArray) :
    (∃ (v : Option Value) (vm₁ : Vm) (B : Pt), s.WarmedH vm₁ ∧ Stand p l e R s m args below meth c B.U B.locs B.cells B.slots ∧ Post ⟨T.setVm vm₁, locs, cells, slots⟩ argsL.toArray v B ∧
      ∀ target, Steps p.tables e below (B.U.setTop { g with pc := g.pc + 3, stack := v.toList ++ rest }) target → Steps p.tables e below (T.setTop g) target) ∨
    (∃ (q : Addr) (vm₁ : Vm) (B : Pt), s.WarmedH vm₁ ∧ Stand p l e R s m args below meth c B.U B.locs B.cells B.slots ∧ PostX ⟨T.setVm vm₁, locs, cells, slots⟩ argsL.toArray q B ∧
      Steps p.tables e below (T.setTop g) ((B.U.setTop { g with stack := rest }).pushFrame (.throwing q))) := by
  obtain ⟨mk, hnamed⟩ := Cond.code_named hcode
  obtain ⟨methM, cM, hmethM, -, -, -, -, -, -, hsigM⟩ := Cond.code_spec hnamed hcode
  have hstatic : methM.isStatic = true := Cond.static_spec hnamed hmethM hstat
  obtain ⟨kP, hkP, -⟩ := className_of_methodNamed hnamed
  have hinitP : kP.init = .initialized := Cond.initialized_spec (findClass_of_methodNamed hnamed) hkP hinit
  obtain ⟨vm₁, X₁, hstep₁⟩ := X.invokestatic hexec hown hlink hnamed hmethM hstatic hkP hinitP hy (g := g) hg (argsL := argsL) (rest := rest) (hlen _ hsigM) hstack hdg
  rcases hK m meth c ⟨T.setVm vm₁, locs, cells, slots⟩ { g with stack := rest } (.invokestatic index) mk argsL.toArray X₁ hg hsize hdg hW (X₁.named hnamed) (hpre vm₁ X₁.warmed) with ⟨v, B, X', hpost, hsteps⟩ | ⟨q, B, X', hpost, hsteps⟩
  · exact Or.inl ⟨v, vm₁, B, X₁.warmed, X', hpost, fun target h => hstep₁ _ fun acts => by rw [doInvoke_state]; exact hsteps.trans h⟩
  · exact Or.inr ⟨q, vm₁, B, X₁.warmed, X', hpost, hstep₁ _ fun acts => by rw [doInvoke_state]; exact hsteps⟩
end Calls
theorem vx_cls {s : State} {T : State} {vm₁ : Vm} {E : String} {k : ClassId} (hW : s.WarmedH vm₁) (h : (T.setVm vm₁).vm.findClass E = some k) : s.vm.findClass E = some k := by
  have h1 : vm₁.findClass E = some k := h
  rw [hW.alike.findClass] at h1
  exact h1
/-- the method's frame g, with q thrown over it -/
def vx_W (p : Program) (l : Launch) (e : Env) (R : Room) (s : State) (m : MethodId) (args : Array Value) (below : List Frame) (meth : Method) (c : Code) (H : Heap) (locs : List Loc) (cells slots : Nat) (Q : State → Prop) (g : JFrame) (q : Addr) : Prop :=
  ∀ T : State, T.heap = H → Stand p l e R s m args below meth c T locs cells slots → ∃ t, Steps p.tables e below ((T.setTop g).pushFrame (.throwing q)) t ∧ Q t
def vx_Run (p : Program) (l : Launch) (e : Env) (R : Room) (s : State) (m : MethodId) (args : Array Value) (below : List Frame) (meth : Method) (c : Code) (H : Heap) (locs : List Loc) (cells slots mc ms : Nat) (g : JFrame) (rest : List Value) (Qa : State → Outcome → State → Prop) (XC : String → State → State → Prop) (free : Addr → Prop) : Prop :=
  ∀ T : State, T.heap = H → Stand p l e R s m args below meth c T locs cells slots →
    (∃ (v : Option Value) (st₀ t T' : State) (L : List Loc), st₀.heap = H ∧ Stand p l e R s m args below meth c T' (locs ++ L) (cells + mc) (slots + ms) ∧ (∀ q ∈ L, free q.base) ∧ T'.heap = t.heap ∧ T'.vm = t.vm ∧ Qa st₀ (.returned v) t ∧
      Goes p e below T g T' { g with pc := g.pc + 3, stack := v.toList ++ rest }) ∨
    (∃ (q : Addr) (st₀ t T' : State) (L : List Loc) (E : String) (ce : Cell), st₀.heap = H ∧ Stand p l e R s m args below meth c T' (locs ++ L) (cells + mc) (slots + ms) ∧ (∀ z ∈ L, free z.base) ∧ T'.heap = t.heap ∧ T'.vm = t.vm ∧ XC E st₀ t ∧ t.heap[q]? = some ce ∧ ce.vm = .none ∧ s.vm.findClass E = some ce.cls ∧
      Steps p.tables e below (T.setTop g) ((T'.setTop { g with stack := rest }).pushFrame (.throwing q)))
def vx_X {S : Type} (px : S → Prop) (B : String → S → State → Prop) (A : Nat → Prop) : String → State → State → Prop := fun E st t => ∃ u : S, px u ∧ B E u t ∧ va_F A st t
section Runs
variable {p : Program} {l : Launch} {e : Env} {R : Room} {s : State} {m : MethodId} {args : Array Value} {below : List Frame} {meth : Method} {c : Code} {H : Heap} {locs : List Loc} {cells slots : Nat}
variable {y : MethodName} {bytes cc : ByteArray} {maxL nL mc ms n index : Nat} {ret : Option FieldType} {ws : List Cond} {rm : Room} {Pc : Array Value → State → Prop} {Qc : Array Value → State → Outcome → State → Prop} {XC : String → State → State → Prop} {free : Addr → Prop} {Ts : List Cond} {own C : String} {b : Addr} {As rest : List Value} {g : JFrame}
theorem vx_callBack (cb : CallB R s args own index y bytes maxL ret ws rm mc ms n) (hM : vx_Met l y ws rm Pc Qc XC mc ms free) (hbl : FrameBlind Pc) : vx_Back l R p e below s args y 3 8 (PreOf R mc ms Pc) (PostOf Qc mc ms free) (vx_Post XC mc ms free) := by
  obtain ⟨hrc, hrs, hfr, hlo, hws, hcw, -, hini, -⟩ := cb
  exact vx_back (bytes := bytes) (maxL := maxL) (ret := ret) hM hbl hrc hrs hfr hlo hws hcw (fun a' U hW => word_at hW (Or.inl (by first | rfl | simp [Cond.onTables, Cond.keeps, Cond.steady])) hini)
theorem vx_runV (S : CallFix p m c cc nL s args Ts own) (hM : vx_Met l y ws rm Pc Qc XC mc ms free) (cw : CallW R s args own C index y bytes maxL ret ws rm mc ms n) (hp : PreV s H C b Pc As)
    (hg : g.method = m) (hn : As.length = n) (hsize : g.locals.size = nL) (hstack : g.stack = As.reverse ++ .ref b :: rest) (hW : 2 * g.monitorRoom + (rest.map fun v => v.category).sum ≤ 8) (hdg : decode cc g.pc = .ok (.invokevirtual index, 3)) (hf : cells + mc ≤ R.cells ∧ slots + ms ≤ R.slots) :
    vx_Run p l e R s m args below meth c H locs cells slots mc ms g rest (Qc (Value.ref b :: As).toArray) XC free := by
  have hK : vx_Back l R p e below s args y 3 8 (PreOf R mc ms Pc) (PostOf Qc mc ms free) (vx_Post XC mc ms free) := vx_callBack cw.1 hM hp.1
  obtain ⟨⟨-, -, -, -, -, -, hcode, -, hy, hlen, hl⟩, hin, hse⟩ := cw
  obtain ⟨hx, hb, hml, ho, -⟩ := S
  obtain ⟨-, ⟨cellB, hcB, hoB, hclB⟩, hPc⟩ := hp
  intro T hT X
  rcases vx_callV X hx (C := C) (bytes := bytes) (maxL := maxL) (ret := ret) ho hl hin hse hcode hy hK (by rw [hT]; exact hcB) hoB hclB hg (hsize.trans hml.symm) (argsL := As) (rest := rest) (fun sig h => hn.trans (hlen sig h)) hstack hW (by rw [hb]; exact hdg)
    (fun vm₁ hW₁ => ⟨hf.1, hf.2, hPc (T.setVm vm₁) hT hW₁⟩) with ⟨v, vm₁, ⟨U', l2, c2, s2⟩, hW₁, X', ⟨g', mk, t, L, e1, e2, hq, h1, hL, h2, h3⟩, st⟩ | ⟨q, vm₁, ⟨U', l2, c2, s2⟩, hW₁, X', ⟨g', mk, t, L, E, ce, e1, e2, hq, hce, hcv, hcl, h1, hL, h2, h3⟩, st⟩
  · dsimp only [Pt.U, Pt.locs, Pt.cells, Pt.slots] at X' e1 e2 h1 h2 h3 st
    subst h1; subst h2; subst h3
    exact Or.inl ⟨v, (T.setVm vm₁).calling g' mk (Value.ref b :: As).toArray, t, U', L, hT, X', hL, e1, e2, hq, st⟩
  · dsimp only [Pt.U, Pt.locs, Pt.cells, Pt.slots] at X' e1 e2 h1 h2 h3 st hcl
    subst h1; subst h2; subst h3
    exact Or.inr ⟨q, (T.setVm vm₁).calling g' mk (Value.ref b :: As).toArray, t, U', L, E, ce, hT, X', hL, e1, e2, hq, hce, hcv, vx_cls hW₁ hcl, st⟩
theorem vx_runS (S : CallFix p m c cc nL s args Ts own) (hM : vx_Met l y ws rm Pc Qc XC mc ms free) (cw : CallB R s args own index y bytes maxL ret ws rm mc ms n ∧ (Cond.static y).before args s = true) (hp : PreS s H Pc As)
    (hg : g.method = m) (hn : As.length = n) (hsize : g.locals.size = nL) (hstack : g.stack = As.reverse ++ rest) (hW : 2 * g.monitorRoom + (rest.map fun v => v.category).sum ≤ 8) (hdg : decode cc g.pc = .ok (.invokestatic index, 3)) (hf : cells + mc ≤ R.cells ∧ slots + ms ≤ R.slots) :
    vx_Run p l e R s m args below meth c H locs cells slots mc ms g rest (Qc As.toArray) XC free := by
  have hK : vx_Back l R p e below s args y 3 8 (PreOf R mc ms Pc) (PostOf Qc mc ms free) (vx_Post XC mc ms free) := vx_callBack cw.1 hM hp.1
  obtain ⟨⟨-, -, -, -, -, -, hcode, hini, hy, hlen, hl⟩, hstt⟩ := cw
  obtain ⟨hx, hb, hml, ho, -⟩ := S
  intro T hT X
  rcases vx_callS X hx (bytes := bytes) (maxL := maxL) (ret := ret) ho hl hstt hini hcode hy hK hg (hsize.trans hml.symm) (argsL := As) (rest := rest) (fun sig h => hn.trans (hlen sig h)) hstack hW (by rw [hb]; exact hdg)
    (fun vm₁ hW₁ => ⟨hf.1, hf.2, hp.2 (T.setVm vm₁) hT hW₁⟩) with ⟨v, vm₁, ⟨U', l2, c2, s2⟩, hW₁, X', ⟨g', mk, t, L, e1, e2, hq, h1, hL, h2, h3⟩, st⟩ | ⟨q, vm₁, ⟨U', l2, c2, s2⟩, hW₁, X', ⟨g', mk, t, L, E, ce, e1, e2, hq, hce, hcv, hcl, h1, hL, h2, h3⟩, st⟩
  · dsimp only [Pt.U, Pt.locs, Pt.cells, Pt.slots] at X' e1 e2 h1 h2 h3 st
    subst h1; subst h2; subst h3
    exact Or.inl ⟨v, (T.setVm vm₁).calling g' mk As.toArray, t, U', L, hT, X', hL, e1, e2, hq, st⟩
  · dsimp only [Pt.U, Pt.locs, Pt.cells, Pt.slots] at X' e1 e2 h1 h2 h3 st hcl
    subst h1; subst h2; subst h3
    exact Or.inr ⟨q, (T.setVm vm₁).calling g' mk As.toArray, t, U', L, E, ce, hT, X', hL, e1, e2, hq, hce, hcv, vx_cls hW₁ hcl, st⟩
end Runs
section Rows
variable {p : Program} {l : Launch} {e : Env} {R : Room} {s : State} {m : MethodId} {args : Array Value} {below : List Frame} {meth : Method} {c : Code} {H : Heap} {locs : List Loc} {cells slots : Nat} {Q : State → Prop}
variable {mc ms : Nat} {free : Addr → Prop} {A0 A1 : Nat → Prop} {H0 : Heap} {a : Array Value} {pc : Nat} {ls : Array Slot} {st0 rest : List Value}
theorem vx_keep {st₀ t T' : State} {L : List Loc} (h0 : st₀.heap = H) (e1 : T'.heap = t.heap) (hS : va_S A0 H0 H locs) (hA : ∀ q, q < H.size → A1 q → A0 q) (hf : ∀ q, free q → A0 q) (hL : ∀ q ∈ L, free q.base) (hF : va_F A1 st₀ t) :
    H.size ≤ T'.heap.size ∧ (∀ q : Nat, q < H.size → ¬ A1 q → T'.heap[q]? = H[q]?) ∧ va_S A0 H0 T'.heap (locs ++ L) := by
  obtain ⟨hz, hk⟩ := hF
  rw [h0] at hz hk
  exact ⟨by rw [e1]; exact hz, fun q h1 h2 => by rw [e1]; exact hk q h1 h2,
    ⟨Nat.le_trans hS.1 (by rw [e1]; exact hz), fun q h1 h2 => by rw [e1, hk q (Nat.lt_of_lt_of_le h1 hS.1) (fun z => h2 (hA q (Nat.lt_of_lt_of_le h1 hS.1) z))]; exact hS.2.1 q h1 h2, fun q hq => by
      rcases List.mem_append.mp hq with h | h
      · exact hS.2.2 q h
      · exact hf _ (hL q h)⟩⟩
theorem vx_calli {S SX : Type} {post : Int32 → S → Prop} {px : SX → Prop} {B : S → State → Prop} {BX : String → SX → State → Prop} {AX : Nat → Prop} (hr : vx_Run p l e R s m args below meth c H locs cells slots mc ms (F0 m pc ls st0) rest (va_Qi post B A1 a) (vx_X px BX AX) free) (hS : va_S A0 H0 H locs) (hA : ∀ q, q < H.size → A1 q → A0 q) (hf : ∀ q, free q → A0 q) (hAX : ∀ q, q < H.size → AX q → A0 q)
    (kx : ∀ (E : String) (ce : Cell) (q9 : Addr) (u : SX) (t : State) (H1 : Heap) (locs1 : List Loc), t.heap = H1 → s.vm.Alike t.vm → px u → BX E u t → H.size ≤ H1.size → (∀ q : Nat, q < H.size → ¬ AX q → H1[q]? = H[q]?) → va_S A0 H0 H1 locs1 → H1[q9]? = some ce → ce.vm = .none → s.vm.findClass E = some ce.cls → vx_W p l e R s m args below meth c H1 locs1 (cells + mc) (slots + ms) Q (F0 m pc ls rest) q9)
    (kk : ∀ (r : Int32) (u : S) (t : State) (H1 : Heap) (locs1 : List Loc), t.heap = H1 → s.vm.Alike t.vm → post r u → B u t → H.size ≤ H1.size → (∀ q : Nat, q < H.size → ¬ A1 q → H1[q]? = H[q]?) → va_S A0 H0 H1 locs1 → W p l e R s m args below meth c H1 locs1 (cells + mc) (slots + ms) Q (F0 m (pc + 3) ls (.int r :: rest))) : W p l e R s m args below meth c H locs cells slots Q (F0 m pc ls st0) := by
  intro T hT X
  rcases hr T hT X with ⟨v, st₀, t, T', L, h0, X', hL, e1, e2, ⟨⟨r, u, hv, hp, hb⟩, hF⟩, st⟩ | ⟨q, st₀, t, T', L, E, ce, h0, X', hL, e1, e2, ⟨u, hp, hb, hF⟩, hce, hcv, hcl, st⟩
  · cases hv
    obtain ⟨k1, k2, k3⟩ := vx_keep h0 e1 hS hA hf hL hF
    obtain ⟨t2, a1, b1⟩ := kk r u t T'.heap (locs ++ L) e1.symm (by rw [← e2]; exact X'.warmed.alike) hp hb k1 k2 k3 T' rfl X'
    exact ⟨t2, st t2 a1, b1⟩
  · obtain ⟨k1, k2, k3⟩ := vx_keep h0 e1 hS hAX hf hL hF
    obtain ⟨t2, a1, b1⟩ := kx E ce q u t T'.heap (locs ++ L) e1.symm (by rw [← e2]; exact X'.warmed.alike) hp hb k1 k2 k3 (by rw [e1]; exact hce) hcv hcl T' rfl X'
    exact ⟨t2, st.trans a1, b1⟩
theorem vx_calll {S SX : Type} {post : Int64 → S → Prop} {px : SX → Prop} {B : S → State → Prop} {BX : String → SX → State → Prop} {AX : Nat → Prop} (hr : vx_Run p l e R s m args below meth c H locs cells slots mc ms (F0 m pc ls st0) rest (va_Ql post B A1 a) (vx_X px BX AX) free) (hS : va_S A0 H0 H locs) (hA : ∀ q, q < H.size → A1 q → A0 q) (hf : ∀ q, free q → A0 q) (hAX : ∀ q, q < H.size → AX q → A0 q)
    (kx : ∀ (E : String) (ce : Cell) (q9 : Addr) (u : SX) (t : State) (H1 : Heap) (locs1 : List Loc), t.heap = H1 → s.vm.Alike t.vm → px u → BX E u t → H.size ≤ H1.size → (∀ q : Nat, q < H.size → ¬ AX q → H1[q]? = H[q]?) → va_S A0 H0 H1 locs1 → H1[q9]? = some ce → ce.vm = .none → s.vm.findClass E = some ce.cls → vx_W p l e R s m args below meth c H1 locs1 (cells + mc) (slots + ms) Q (F0 m pc ls rest) q9)
    (kk : ∀ (r : Int64) (u : S) (t : State) (H1 : Heap) (locs1 : List Loc), t.heap = H1 → s.vm.Alike t.vm → post r u → B u t → H.size ≤ H1.size → (∀ q : Nat, q < H.size → ¬ A1 q → H1[q]? = H[q]?) → va_S A0 H0 H1 locs1 → W p l e R s m args below meth c H1 locs1 (cells + mc) (slots + ms) Q (F0 m (pc + 3) ls (.long r :: rest))) : W p l e R s m args below meth c H locs cells slots Q (F0 m pc ls st0) := by
  intro T hT X
  rcases hr T hT X with ⟨v, st₀, t, T', L, h0, X', hL, e1, e2, ⟨⟨r, u, hv, hp, hb⟩, hF⟩, st⟩ | ⟨q, st₀, t, T', L, E, ce, h0, X', hL, e1, e2, ⟨u, hp, hb, hF⟩, hce, hcv, hcl, st⟩
  · cases hv
    obtain ⟨k1, k2, k3⟩ := vx_keep h0 e1 hS hA hf hL hF
    obtain ⟨t2, a1, b1⟩ := kk r u t T'.heap (locs ++ L) e1.symm (by rw [← e2]; exact X'.warmed.alike) hp hb k1 k2 k3 T' rfl X'
    exact ⟨t2, st t2 a1, b1⟩
  · obtain ⟨k1, k2, k3⟩ := vx_keep h0 e1 hS hAX hf hL hF
    obtain ⟨t2, a1, b1⟩ := kx E ce q u t T'.heap (locs ++ L) e1.symm (by rw [← e2]; exact X'.warmed.alike) hp hb k1 k2 k3 (by rw [e1]; exact hce) hcv hcl T' rfl X'
    exact ⟨t2, st.trans a1, b1⟩
theorem vx_callf {S SX : Type} {post : UInt32 → S → Prop} {px : SX → Prop} {B : S → State → Prop} {BX : String → SX → State → Prop} {AX : Nat → Prop} (hr : vx_Run p l e R s m args below meth c H locs cells slots mc ms (F0 m pc ls st0) rest (va_Qf post B A1 a) (vx_X px BX AX) free) (hS : va_S A0 H0 H locs) (hA : ∀ q, q < H.size → A1 q → A0 q) (hf : ∀ q, free q → A0 q) (hAX : ∀ q, q < H.size → AX q → A0 q)
    (kx : ∀ (E : String) (ce : Cell) (q9 : Addr) (u : SX) (t : State) (H1 : Heap) (locs1 : List Loc), t.heap = H1 → s.vm.Alike t.vm → px u → BX E u t → H.size ≤ H1.size → (∀ q : Nat, q < H.size → ¬ AX q → H1[q]? = H[q]?) → va_S A0 H0 H1 locs1 → H1[q9]? = some ce → ce.vm = .none → s.vm.findClass E = some ce.cls → vx_W p l e R s m args below meth c H1 locs1 (cells + mc) (slots + ms) Q (F0 m pc ls rest) q9)
    (kk : ∀ (r : UInt32) (u : S) (t : State) (H1 : Heap) (locs1 : List Loc), t.heap = H1 → s.vm.Alike t.vm → post r u → B u t → H.size ≤ H1.size → (∀ q : Nat, q < H.size → ¬ A1 q → H1[q]? = H[q]?) → va_S A0 H0 H1 locs1 → W p l e R s m args below meth c H1 locs1 (cells + mc) (slots + ms) Q (F0 m (pc + 3) ls (.float r :: rest))) : W p l e R s m args below meth c H locs cells slots Q (F0 m pc ls st0) := by
  intro T hT X
  rcases hr T hT X with ⟨v, st₀, t, T', L, h0, X', hL, e1, e2, ⟨⟨r, u, hv, hp, hb⟩, hF⟩, st⟩ | ⟨q, st₀, t, T', L, E, ce, h0, X', hL, e1, e2, ⟨u, hp, hb, hF⟩, hce, hcv, hcl, st⟩
  · cases hv
    obtain ⟨k1, k2, k3⟩ := vx_keep h0 e1 hS hA hf hL hF
    obtain ⟨t2, a1, b1⟩ := kk r u t T'.heap (locs ++ L) e1.symm (by rw [← e2]; exact X'.warmed.alike) hp hb k1 k2 k3 T' rfl X'
    exact ⟨t2, st t2 a1, b1⟩
  · obtain ⟨k1, k2, k3⟩ := vx_keep h0 e1 hS hAX hf hL hF
    obtain ⟨t2, a1, b1⟩ := kx E ce q u t T'.heap (locs ++ L) e1.symm (by rw [← e2]; exact X'.warmed.alike) hp hb k1 k2 k3 (by rw [e1]; exact hce) hcv hcl T' rfl X'
    exact ⟨t2, st.trans a1, b1⟩
theorem vx_calld {S SX : Type} {post : UInt64 → S → Prop} {px : SX → Prop} {B : S → State → Prop} {BX : String → SX → State → Prop} {AX : Nat → Prop} (hr : vx_Run p l e R s m args below meth c H locs cells slots mc ms (F0 m pc ls st0) rest (va_Qd post B A1 a) (vx_X px BX AX) free) (hS : va_S A0 H0 H locs) (hA : ∀ q, q < H.size → A1 q → A0 q) (hf : ∀ q, free q → A0 q) (hAX : ∀ q, q < H.size → AX q → A0 q)
    (kx : ∀ (E : String) (ce : Cell) (q9 : Addr) (u : SX) (t : State) (H1 : Heap) (locs1 : List Loc), t.heap = H1 → s.vm.Alike t.vm → px u → BX E u t → H.size ≤ H1.size → (∀ q : Nat, q < H.size → ¬ AX q → H1[q]? = H[q]?) → va_S A0 H0 H1 locs1 → H1[q9]? = some ce → ce.vm = .none → s.vm.findClass E = some ce.cls → vx_W p l e R s m args below meth c H1 locs1 (cells + mc) (slots + ms) Q (F0 m pc ls rest) q9)
    (kk : ∀ (r : UInt64) (u : S) (t : State) (H1 : Heap) (locs1 : List Loc), t.heap = H1 → s.vm.Alike t.vm → post r u → B u t → H.size ≤ H1.size → (∀ q : Nat, q < H.size → ¬ A1 q → H1[q]? = H[q]?) → va_S A0 H0 H1 locs1 → W p l e R s m args below meth c H1 locs1 (cells + mc) (slots + ms) Q (F0 m (pc + 3) ls (.double r :: rest))) : W p l e R s m args below meth c H locs cells slots Q (F0 m pc ls st0) := by
  intro T hT X
  rcases hr T hT X with ⟨v, st₀, t, T', L, h0, X', hL, e1, e2, ⟨⟨r, u, hv, hp, hb⟩, hF⟩, st⟩ | ⟨q, st₀, t, T', L, E, ce, h0, X', hL, e1, e2, ⟨u, hp, hb, hF⟩, hce, hcv, hcl, st⟩
  · cases hv
    obtain ⟨k1, k2, k3⟩ := vx_keep h0 e1 hS hA hf hL hF
    obtain ⟨t2, a1, b1⟩ := kk r u t T'.heap (locs ++ L) e1.symm (by rw [← e2]; exact X'.warmed.alike) hp hb k1 k2 k3 T' rfl X'
    exact ⟨t2, st t2 a1, b1⟩
  · obtain ⟨k1, k2, k3⟩ := vx_keep h0 e1 hS hAX hf hL hF
    obtain ⟨t2, a1, b1⟩ := kx E ce q u t T'.heap (locs ++ L) e1.symm (by rw [← e2]; exact X'.warmed.alike) hp hb k1 k2 k3 (by rw [e1]; exact hce) hcv hcl T' rfl X'
    exact ⟨t2, st.trans a1, b1⟩
theorem vx_callv {S SX : Type} {post : S → Prop} {px : SX → Prop} {B : S → State → Prop} {BX : String → SX → State → Prop} {AX : Nat → Prop} (hr : vx_Run p l e R s m args below meth c H locs cells slots mc ms (F0 m pc ls st0) rest (va_Qv post B A1 a) (vx_X px BX AX) free) (hS : va_S A0 H0 H locs) (hA : ∀ q, q < H.size → A1 q → A0 q) (hf : ∀ q, free q → A0 q) (hAX : ∀ q, q < H.size → AX q → A0 q)
    (kx : ∀ (E : String) (ce : Cell) (q9 : Addr) (u : SX) (t : State) (H1 : Heap) (locs1 : List Loc), t.heap = H1 → s.vm.Alike t.vm → px u → BX E u t → H.size ≤ H1.size → (∀ q : Nat, q < H.size → ¬ AX q → H1[q]? = H[q]?) → va_S A0 H0 H1 locs1 → H1[q9]? = some ce → ce.vm = .none → s.vm.findClass E = some ce.cls → vx_W p l e R s m args below meth c H1 locs1 (cells + mc) (slots + ms) Q (F0 m pc ls rest) q9)
    (kk : ∀ (u : S) (t : State) (H1 : Heap) (locs1 : List Loc), t.heap = H1 → s.vm.Alike t.vm → post u → B u t → H.size ≤ H1.size → (∀ q : Nat, q < H.size → ¬ A1 q → H1[q]? = H[q]?) → va_S A0 H0 H1 locs1 → W p l e R s m args below meth c H1 locs1 (cells + mc) (slots + ms) Q (F0 m (pc + 3) ls (rest))) : W p l e R s m args below meth c H locs cells slots Q (F0 m pc ls st0) := by
  intro T hT X
  rcases hr T hT X with ⟨v, st₀, t, T', L, h0, X', hL, e1, e2, ⟨⟨u, hv, hp, hb⟩, hF⟩, st⟩ | ⟨q, st₀, t, T', L, E, ce, h0, X', hL, e1, e2, ⟨u, hp, hb, hF⟩, hce, hcv, hcl, st⟩
  · cases hv
    obtain ⟨k1, k2, k3⟩ := vx_keep h0 e1 hS hA hf hL hF
    obtain ⟨t2, a1, b1⟩ := kk u t T'.heap (locs ++ L) e1.symm (by rw [← e2]; exact X'.warmed.alike) hp hb k1 k2 k3 T' rfl X'
    exact ⟨t2, st t2 a1, b1⟩
  · obtain ⟨k1, k2, k3⟩ := vx_keep h0 e1 hS hAX hf hL hF
    obtain ⟨t2, a1, b1⟩ := kx E ce q u t T'.heap (locs ++ L) e1.symm (by rw [← e2]; exact X'.warmed.alike) hp hb k1 k2 k3 (by rw [e1]; exact hce) hcv hcl T' rfl X'
    exact ⟨t2, st.trans a1, b1⟩
/-- caught by the row x of this method's table; the rows ahead don't take it -/
theorem vx_catch {own name : String} {E : String} {ce : Cell} {q : Addr} (hown : s.vm.findClass own = some m.cls) (pre : List ExceptionTableEntry) (x : ExceptionTableEntry) (suf : List ExceptionTableEntry) (hsplit : c.exceptionTable.toList = pre ++ x :: suf)
    (hpass : ∀ z ∈ pre, covers z pc = false ∨ (z.catchType ≠ 0 ∧ ∃ nm : String, (Cond.classLink own z.catchType nm).before args s = true ∧ va_Nc E nm s)) (hx : covers x pc = true) (h0 : x.catchType ≠ 0)
    (hlink : (Cond.classLink own x.catchType name).before args s = true) (hcast : (Cond.castable E name).before args s = true) (hcell : H[q]? = some ce) (hv : ce.vm = .none) (hcl : s.vm.findClass E = some ce.cls)
    (kk : W p l e R s m args below meth c H locs cells slots Q (F0 m x.handlerPc ls [.ref q])) : vx_W p l e R s m args below meth c H locs cells slots Q (F0 m pc ls rest) q := by
  intro T hT X
  have hpl : e.platform.magicAccessors = ({} : Platform).magicAccessors := by rw [X.admits.platform]
  obtain ⟨c3, c4, hc3, hc4, hasg⟩ := Cond.castable_spec hcast
  cases Option.some.inj (hc3.symm.trans hcl)
  obtain ⟨c5, hc5, hcl5⟩ := Cond.classLink_spec hown hlink e.platform hpl
  cases Option.some.inj (hc4.symm.trans hc5)
  obtain ⟨vm', X', st⟩ := X.thenCaughtThrough q (g := F0 m pc ls rest) rfl (Steps.refl _) (by rw [hT]; exact hcell) (by rw [hv]; rfl) (by obtain ⟨k9, h9, -⟩ := Vm.findClass_spec hcl; exact ⟨k9, h9⟩) pre x suf hsplit
    (fun z hz => by
      rcases hpass z hz with h | ⟨hz0, nm, hl1, hn1⟩
      · exact Or.inl h
      · obtain ⟨c6, hc6, hcl6⟩ := Cond.classLink_spec hown hl1 e.platform hpl
        obtain ⟨a8, b8, h1, h2, h3⟩ := hn1
        cases Option.some.inj (h1.symm.trans hcl)
        cases Option.some.inj (h2.symm.trans hc6)
        exact Or.inr ⟨hz0, _, hcl6, h3⟩) hx (Or.inr ⟨h0, c4, hcl5, hasg⟩)
  obtain ⟨t, a1, b1⟩ := kk (T.setVm vm') hT X'
  exact ⟨t, st.trans a1, b1⟩
end Rows
section Ends
variable {p : Program} {l : Launch} {e : Env} {R : Room} {s : State} {m : MethodId} {args : Array Value} {below : List Frame} {meth : Method} {c : Code} {H : Heap} {locs : List Loc} {cells slots : Nat} {Q : State → Prop}
variable {mc ms : Nat} {free : Addr → Prop} {A0 A1 : Nat → Prop} {H0 : Heap} {a : Array Value} {ls : Array Slot} {st0 rest : List Value}
variable {Qc : Array Value → State → Outcome → State → Prop} {XC : String → State → State → Prop}
/-- what a body that may throw owes at its end -/
def vx_MQ (below : List Frame) (Qc : Array Value → State → Outcome → State → Prop) (XC : String → State → State → Prop) (a : Array Value) (s : State) (mc ms : Nat) (free : Addr → Prop) : State → Prop := fun t =>
  ∃ o, t.status = .running ∧ Ended t below o ∧ vx_Q Qc XC mc ms free a s o t
theorem vx_ret {g : JFrame} {mc ms : Nat} (k : W p l e R s m args below meth c H locs cells slots (MQ below Qc args s mc ms free) g) : W p l e R s m args below meth c H locs cells slots (vx_MQ below Qc XC args s mc ms free) g := by
  intro T hT X
  obtain ⟨t, a1, o, b1, b2, b3, b4⟩ := k T hT X
  exact ⟨t, a1, o, b1, b2, Or.inl ⟨b3, b4⟩⟩
/-- not caught here: it goes on to the caller -/
theorem vx_widen {g : JFrame} {q : Addr} {k n : Nat} (h1 : cells ≤ k) (h2 : slots ≤ n) (kk : vx_W p l e R s m args below meth c H locs k n Q g q) : vx_W p l e R s m args below meth c H locs cells slots Q g q := fun T hT X => kk T hT (stand_widen X h1 h2)
theorem vx_out {pc : Nat} {E : String} {ce : Cell} {q : Addr} {mc ms : Nat} (hout : ∀ x ∈ c.exceptionTable.toList, covers x pc = false) (hlocks : meth.locks = false) (hcell : H[q]? = some ce) (hv : ce.vm = .none) (hcl : s.vm.findClass E = some ce.cls)
    (hx : ∀ t : State, t.heap = H → s.vm.Alike t.vm → XC E s t) (hf : ∀ z ∈ locs, free z.base) (hc : cells ≤ mc) (hs : slots ≤ ms) :
    vx_W p l e R s m args below meth c H locs cells slots (vx_MQ below Qc XC args s mc ms free) (F0 m pc ls rest) q := by
  intro T hT X
  obtain ⟨st1, hrun, hend, hW, hsm⟩ := X.leaveThrown q (g := F0 m pc ls rest) rfl rfl rfl hout hlocks
  have hcell9 : (T.setFrames (.throwing q :: below)).heap[q]? = some ce := by
    show T.heap[q]? = some ce
    rw [hT]; exact hcell
  exact ⟨_, st1, .threw q, hrun, hend, Or.inr ⟨q, rfl, E, ce, locs, hx _ hT hW.alike, hcell9, hv, hcl, hW, hsm.mono hc hs, hf⟩⟩
theorem vx_frame {U : State} {k n : Nat} (h : s.sameButNew ({ U with vm := s.vm } : State) locs k n) : s.heap.size ≤ U.heap.size ∧ ∀ q : Nat, q < s.heap.size → (∀ z ∈ locs, z.base ≠ q) → U.heap[q]? = s.heap[q]? := by
  obtain ⟨-, h2, -, -, -, h6⟩ := h
  refine ⟨h2, fun q hq hz => ?_⟩
  obtain ⟨c9, e1, e2, e3, e4⟩ := h6 q _ (Array.getElem?_eq_getElem hq)
  have hs : c9.slots = (s.heap[q]).slots := Array.ext_getElem? fun i => e4 i fun hm => hz _ hm rfl
  have h9 : c9 = s.heap[q] := by
    rw [hs] at e2
    exact e2
  have e5 : U.heap[q]? = some c9 := e1
  rw [e5, h9, Array.getElem?_eq_getElem hq]
/-- the words of a throw but the four that speak of the heap -/
def vx_no (w : Cond) : Bool := decide (w ≠ .isRef (.static Bundle.tN "UNASSIGNED_STACK" Bundle.steD)) && decide (w ≠ .isRef (.static Bundle.tN "SUPPRESSED_SENTINEL" Bundle.listD)) && decide (w ≠ .laysStatic Bundle.tN "UNASSIGNED_STACK" Bundle.steD) && decide (w ≠ .laysStatic Bundle.tN "SUPPRESSED_SENTINEL" Bundle.listD)
def vx_at0 (own : String) (ic : Nat) (X : String) (names : List String) : List Cond := (Bundle.ownAtoms0 own ic X names).filter vx_no
def vx_atS (own : String) (ic : Nat) (X : String) (names : List String) : List Cond := (Bundle.ownAtoms own ic X names).filter vx_no
/-- a word that the tables alone decide, or a good one -/
def vx_ot (w : Cond) : Bool := w.onTables || goodWord w
theorem vx_ot_at {args a' : Array Value} {s U : State} {w : Cond} (hW : s.WarmedH U.vm) (hvm : s.vm = U.vm) (hg : vx_ot w = true) (h : w.before args s = true) : w.before a' U = true := by
  simp only [vx_ot, Bool.or_eq_true] at hg
  rcases hg with hg | hg
  · exact va_tabs hg hvm h
  · exact word_at hW (good_of_word hg) h
/-- a list's words: the good ones out of the method's own list, the others by premises of their own -/
theorem vx_hat {args : Array Value} {s : State} {L B : List Cond} (h1 : ∀ w ∈ L.filter goodWord, w.before args s = true) (h2 : ∀ w ∈ L.filter (fun w => !goodWord w), w ∈ B) (h3 : ∀ w ∈ B, w.before args s = true) : ∀ w ∈ L, w.before args s = true := by
  intro w hw
  by_cases g : goodWord w = true
  · exact h1 w (List.mem_filter.mpr ⟨hw, g⟩)
  · refine h3 w (h2 w (List.mem_filter.mpr ⟨hw, ?_⟩))
    show (!goodWord w) = true
    cases hgw : goodWord w
    · rfl
    · exact absurd hgw g
theorem vx_c {args : Array Value} {s : State} {w : Cond} {B : List Cond} (h : w.before args s = true) (t : ∀ w ∈ B, w.before args s = true) : ∀ w' ∈ w :: B, w'.before args s = true := fun w' h' => (List.mem_cons.mp h').elim (fun e => by rw [e]; exact h) (t w')
theorem vx_n {args : Array Value} {s : State} : ∀ w ∈ ([] : List Cond), w.before args s = true := fun _ h => nomatch h
theorem vx_own {args : Array Value} {s : State} {L : List Cond} (h1 : ∀ w ∈ L.filter vx_no, w.before args s = true)
    (hU : (Cond.isRef (.static Bundle.tN "UNASSIGNED_STACK" Bundle.steD)).before args s = true) (hN : (Cond.isRef (.static Bundle.tN "SUPPRESSED_SENTINEL" Bundle.listD)).before args s = true)
    (lU : (Cond.laysStatic Bundle.tN "UNASSIGNED_STACK" Bundle.steD).before args s = true) (lN : (Cond.laysStatic Bundle.tN "SUPPRESSED_SENTINEL" Bundle.listD).before args s = true) : ∀ w ∈ L, w.before args s = true := by
  intro w hw
  by_cases e1 : w = .isRef (.static Bundle.tN "UNASSIGNED_STACK" Bundle.steD)
  · rw [e1]; exact hU
  · by_cases e2 : w = .isRef (.static Bundle.tN "SUPPRESSED_SENTINEL" Bundle.listD)
    · rw [e2]; exact hN
    · by_cases e3 : w = .laysStatic Bundle.tN "UNASSIGNED_STACK" Bundle.steD
      · rw [e3]; exact lU
      · by_cases e4 : w = .laysStatic Bundle.tN "SUPPRESSED_SENTINEL" Bundle.listD
        · rw [e4]; exact lN
        · exact h1 w (List.mem_filter.mpr ⟨hw, by unfold vx_no; rw [decide_eq_true e1, decide_eq_true e2, decide_eq_true e3, decide_eq_true e4]; rfl⟩)
/-- where a static field lies, its class's statics cell in H -/
def vx_L (C n d : String) (A : Nat → Prop) (U : State) (H : Heap) : Prop := ∃ (c : ClassId) (k : Class) (i : Nat) (f : Field) (a : Nat) (cell : Cell), U.vm.findClass C = some c ∧ U.fieldFound? C n d = some (c, k, i, f) ∧ f.isStatic = true ∧ k.statics = some a ∧ H[a]? = some cell ∧ cell.vm.isStatics = true ∧ cell.cls = c ∧ f.slot < cell.slots.size ∧ k.staticTypes[f.slot]? = some f.type ∧ ¬ A a
theorem vx_L.moved {C n d : String} {A : Nat → Prop} {u U : State} {H : Heap} (hvm : u.vm.Alike U.vm) (h : vx_L C n d A u H) : vx_L C n d A U H := by
  obtain ⟨c, k, i, f, a, cell, h1, h2, h3, h4, h5, h6, h7, h8, h9, h10⟩ := h
  obtain ⟨k', hi', he⟩ := State.fieldFound?_setVm hvm h2
  exact ⟨c, k', i, f, a, cell, by rw [hvm.findClass]; exact h1, hi', h3, by rw [he]; exact h4, h5, h6, h7, h8, by rw [he]; exact h9, h10⟩
theorem vx_L.kept {C n d : String} {A : Nat → Prop} {U : State} {H H1 : Heap} (h : vx_L C n d A U H) (hq : ∀ a : Nat, a < H.size → ¬ A a → H1[a]? = H[a]?) : vx_L C n d A U H1 := by
  obtain ⟨c, k, i, f, a, cell, h1, h2, h3, h4, h5, h6, h7, h8, h9, h10⟩ := h
  exact ⟨c, k, i, f, a, cell, h1, h2, h3, h4, by rw [hq a (Array.getElem?_eq_some_iff.mp h5).1 h10]; exact h5, h6, h7, h8, h9, h10⟩
theorem vx_L.narrow {C n d : String} {A B : Nat → Prop} {U : State} {H : Heap} (h : vx_L C n d A U H) (hAB : ∀ q, B q → A q) : vx_L C n d B U H := by
  obtain ⟨c, k, i, f, a, cell, h1, h2, h3, h4, h5, h6, h7, h8, h9, h10⟩ := h
  exact ⟨c, k, i, f, a, cell, h1, h2, h3, h4, h5, h6, h7, h8, h9, fun z => h10 (hAB _ z)⟩
theorem vx_L.word {C n d : String} {A : Nat → Prop} {s : State} {args : Array Value} (h : vx_L C n d A s s.heap) : (Cond.laysStatic C n d).before args s = true := by
  obtain ⟨c, k, i, f, a, cell, h1, h2, h3, h4, h5, h6, h7, h8, h9, -⟩ := h
  show (Cond.laysStatic C n d).holds args s none s [] = true
  exact Cond.laysStatic_of h1 h2 h3 h4 h5 h6 h7 h8 h9
/-- .. and what it holds: null or some reference -/
def vx_Zq (C n d : String) (A : Nat → Prop) (U : State) (H : Heap) : Prop := va_Zq C n d A U H ∧ vx_L C n d A U H
theorem vx_Zq.moved {C n d : String} {A : Nat → Prop} {u U : State} {H : Heap} (hvm : u.vm.Alike U.vm) (h : vx_Zq C n d A u H) : vx_Zq C n d A U H := ⟨va_Zq.moved hvm h.1, vx_L.moved hvm h.2⟩
theorem vx_Zq.kept {C n d : String} {A : Nat → Prop} {U : State} {H H1 : Heap} (h : vx_Zq C n d A U H) (hq : ∀ a : Nat, a < H.size → ¬ A a → H1[a]? = H[a]?) : vx_Zq C n d A U H1 := ⟨va_Zq.kept h.1 hq, vx_L.kept h.2 hq⟩
theorem vx_Zq.narrow {C n d : String} {A B : Nat → Prop} {U : State} {H : Heap} (h : vx_Zq C n d A U H) (hAB : ∀ q, B q → A q) : vx_Zq C n d B U H := ⟨va_Zq.narrow h.1 hAB, vx_L.narrow h.2 hAB⟩
theorem vx_Zqof {args : Array Value} {s : State} {C n d : String} {A : Nat → Prop} (hl : (Cond.laysStatic C n d).before args s = true) (hini : (Cond.initialized C).before args s = true) (h : (Cond.isRef (.static C n d)).before args s = true) (hA : ∀ a : Nat, a < s.heap.size → ¬ A a) : vx_Zq C n d A s s.heap := by
  refine ⟨va_Zqof hl hini h hA, ?_⟩
  obtain ⟨c, k, i, f, a, cell, h1, h2, h3, h4, h5, h6, h7, h8, h9⟩ := Cond.laysStatic_spec hl
  exact ⟨c, k, i, f, a, cell, h1, h2, h3, h4, h5, h6, h7, h8, h9, hA a (Array.getElem?_eq_some_iff.mp h5).1⟩
theorem vx_isRef {C n d : String} {v : Value} {A : Nat → Prop} {s : State} {args : Array Value} (h : va_Z C n d v A s s.heap) (hv : v.isRef = true) : (Cond.isRef (.static C n d)).before args s = true := by
  obtain ⟨cf, kf, fi, f, a, cell, h1, h2, h3, h4, h5, h6, h7, -⟩ := h
  have he : (Term.static C n d).eval args s none [] s = some v := by
    simp [Term.eval, State.fieldNamed?, h1, h2, h4, h5, h6, h7]
  simp only [Cond.before, Cond.holds, Cond.value, he]
  cases v <;> simp_all [Value.isRef]
theorem vx_isRefq {C n d : String} {A : Nat → Prop} {s : State} {args : Array Value} (h : va_Zq C n d A s s.heap) : (Cond.isRef (.static C n d)).before args s = true := by
  rcases h with h | ⟨t, h⟩
  · exact vx_isRef h rfl
  · exact vx_isRef h rfl
/-- the same frame, seen from here: as if the method were called anew in this heap -/
theorem vx_rebase {T : State} (X : Stand p l e R s m args below meth c T locs cells slots) {R' : Room} (hf : R'.frames ≤ R.frames) (hl : R'.locals ≤ R.locals) (hc : cells + R'.cells ≤ R.cells) (hs : slots + R'.slots ≤ R.slots) :
    Stand p l e R' ((T.setVm s.vm).setFrames (.invoking m args :: below)) m args below meth c T [] 0 0 := by
  have htop : (T.setVm s.vm).topJava?.isSome := X.here.top
  have hF : ((T.setVm s.vm).setFrames (.invoking m args :: below)).frames = .invoking m args :: below := State.frames_setFrames _ (State.cur_lt_of_top htop)
  obtain ⟨g₀, hg0⟩ := Option.isSome_iff_exists.mp htop
  obtain ⟨r, hr⟩ := State.topJava?_eq_some.mp hg0
  have hl9 : e.platform.stackLimits (T.setVm s.vm).me = e.platform.stackLimits s.me := X.limits
  have hb9 : (T.setVm s.vm).me.stackBytes = s.me.stackBytes := X.bytes
  refine ⟨X.admits, X.cas, X.clock, hF, ?_, X.hears, X.method, X.code, X.here, X.tail, X.warmed, ?_, ?_, ?_⟩
  · have h := X.room
    have hU : ((T.setVm s.vm).setFrames (.invoking m args :: below)).localsInUse = s.localsInUse := by
      rw [State.localsInUse_invoking hF (meth := meth) (c := c) X.method X.code, State.localsInUse_invoking X.frames X.method X.code]
    simp only [State.hasRoom, Bool.and_eq_true, decide_eq_true_eq] at h ⊢
    obtain ⟨⟨⟨⟨h1, h2, h3, h4, h5, h6⟩, h7⟩, h8⟩, h9⟩ := h
    rw [X.frames, List.length_cons] at h2 h3
    have q1 := X.heapSize
    have q2 := X.used
    simp only [hF, hU, List.length_cons, State.stackLimits_setFrames, State.stackBytes_setFrames, hl9, hb9]
    refine ⟨⟨⟨⟨by omega, by omega, by omega, by omega, by omega, h6⟩, ?_⟩, ?_⟩, X.book⟩
    · show T.heap.size + R'.cells ≤ e.platform.maxCells
      omega
    · show T.slotsUsed + R'.slots ≤ e.platform.maxSlots
      omega
  · rw [State.stackLimits_setFrames]; rfl
  · rw [State.stackBytes_setFrames]; rfl
  · refine ⟨?_, Nat.le_refl _, Nat.le_refl _, ?_, ?_, fun a c9 h9 => ⟨c9, h9, rfl, rfl, fun _ _ => rfl⟩⟩
    · obtain ⟨t, ht, -⟩ := State.frames_cons hr
      show T.setVm s.vm = { ((T.setVm s.vm).setFrames (.invoking m args :: below)).setFrames (T.setVm s.vm).frames with heap := T.heap, slotsUsed := T.slotsUsed }
      rw [State.setFrames_setFrames, State.setFrames_self ht]
      rfl
    · show T.slotsUsed = T.slotsUsed + ((T.heap.toList.drop T.heap.size).map (·.slots.size)).sum
      rw [List.drop_eq_nil_of_le (Nat.le_of_eq Array.length_toList)]
      rfl
    · show ((T.heap.toList.drop T.heap.size).map (·.slots.size)).sum ≤ 0
      rw [List.drop_eq_nil_of_le (Nat.le_of_eq Array.length_toList)]
      exact Nat.le_refl _
/-- 'throw new E()': new; dup; invokespecial; athrow -/
theorem vx_throw0 {cc : ByteArray} {pc : Nat} (hexec : p.tables.exec = Jvm.exec) (hb : c.code = cc) (hl : l.stackTraces = false) {own cls : String} {names : List String} {ik ic mc ms : Nat} {A : Nat → Prop}
    (hown : s.vm.findClass own = some m.cls) (hcls : Bundle.fit cls = true) (hnames : ∀ n ∈ names, Bundle.fit n = true)
    (hk : (Cond.classLink own ik cls).before args s = true) (hini : (Cond.initialized cls).before args s = true) (hat : ∀ w ∈ vx_at0 own ic cls names, w.before args s = true)
    (hgood : ∀ w ∈ Cond.classLink own ik cls :: Cond.initialized cls :: vx_at0 own ic cls names, vx_ot w = true)
    (hU : vx_Zq Bundle.tN "UNASSIGNED_STACK" Bundle.steD A s s.heap) (hN : vx_Zq Bundle.tN "SUPPRESSED_SENTINEL" Bundle.listD A s s.heap) (hS : va_S A s.heap H locs) (hsize : ls.size = c.maxLocals)
    (d0 : decode cc pc = .ok (.new ik, 3)) (d3 : decode cc (pc + 3) = .ok (.dup, 1)) (d4 : decode cc (pc + 4) = .ok (.invokespecial ic, 3)) (d7 : decode cc (pc + 7) = .ok (.athrow, 1))
    (hout : ∀ x ∈ c.exceptionTable.toList, covers x (pc + 7) = false)
    (hRframes : names.length + 3 < R.frames) (hRlocals : (rest.map fun v => v.category).sum + (13 * (names.length + 1) + 42) ≤ R.locals) (hRcells : cells + 1 ≤ R.cells) (hRslots : slots + 6 ≤ R.slots) (hlocks : meth.locks = false)
    (hx : ∀ t : State, s.vm.Alike t.vm → H.size ≤ t.heap.size → (∀ q : Nat, q < H.size → t.heap[q]? = H[q]?) → XC cls s t)
    (hf : ∀ z ∈ locs, free z.base) (hc : cells + 1 ≤ mc) (hs : slots + 6 ≤ ms) :
    W p l e R s m args below meth c H locs cells slots (vx_MQ below Qc XC args s mc ms free) (F0 m pc ls rest) := by
  intro T hT X
  have htr : e.platform.stackTraces = false := (show e.platform.stackTraces = l.stackTraces by rw [X.admits.platform]).trans hl
  have Y := vx_rebase X (R' := { frames := R.frames, locals := R.locals, cells := 1, slots := 6 }) (Nat.le_refl _) (Nat.le_refl _) hRcells hRslots
  obtain ⟨s', hA⟩ : ∃ z, z = (T.setVm s.vm).setFrames (.invoking m args :: below) := ⟨_, rfl⟩
  rw [← hA] at Y
  have hvm : s'.vm = s.vm := by rw [hA]; rfl
  have hhp : s'.heap = H := by rw [hA]; exact hT
  have hW0 : s.WarmedH s'.vm := by rw [hvm]; exact State.WarmedH.refl s
  have hat' : ∀ w ∈ vx_at0 own ic cls names, w.before args s' = true := fun w hw => vx_ot_at hW0 hvm.symm (hgood w (List.mem_cons_of_mem _ (List.mem_cons_of_mem _ hw))) (hat w hw)
  have hk' : (Cond.classLink own ik cls).before args s' = true := vx_ot_at hW0 hvm.symm (hgood _ List.mem_cons_self) hk
  have hini' : (Cond.initialized cls).before args s' = true := vx_ot_at hW0 hvm.symm (hgood _ (List.mem_cons_of_mem _ List.mem_cons_self)) hini
  have hU' : vx_Zq Bundle.tN "UNASSIGNED_STACK" Bundle.steD A s' s'.heap := by rw [hhp]; exact vx_Zq.moved hW0.alike (hU.kept hS.2.1)
  have hN' : vx_Zq Bundle.tN "SUPPRESSED_SENTINEL" Bundle.listD A s' s'.heap := by rw [hhp]; exact vx_Zq.moved hW0.alike (hN.kept hS.2.1)
  have h : ∀ w ∈ Bundle.ownAtoms0 own ic cls names, w.before args s' = true := vx_own hat' (vx_isRefq hU'.1) (vx_isRefq hN'.1) hU'.2.word hN'.2.word
  have hown' : s'.vm.findClass own = some m.cls := by rw [hvm]; exact hown
  have hins : (Cond.instantiable cls 6).before args s' = true := h _ (by simp [Bundle.ownAtoms0])
  obtain ⟨vm₁, cX, kX, hfX, hkX, -, -, X₁, st1⟩ := Y.newCold hexec (own := own) (C := cls) (index := ik) (n := 6) hown' hk' hins hini'
    (g := F0 m pc ls rest) rfl (by rw [hb]; exact d0) (Nat.le_refl _) (Nat.le_refl _)
  generalize hT1 : (T.setVm vm₁).pushCell { cls := cX, slots := kX.instanceTypes.map defaultValue, vm := .none } = T1 at X₁ st1
  have hcat : (Value.ref T.heap.size).category = 1 := rfl
  have hcellA : T1.heap[T.heap.size]? = some (freshCell cX kX) := by rw [← hT1]; exact State.heap_pushCell_size _ _
  have d3' : decode c.code (pc + 3) = .ok (.dup, 1) := by rw [hb]; exact d3
  obtain ⟨U, hsteps, hrun, hend, hW, hsame, ce, hce, hO⟩ := X₁.ctorThrow0 hexec htr (own := own) (cls := cls) (names := names) (ic := ic) hown' hcls hnames h (fun x hx => nomatch hx) hfX hkX hcellA (by rw [hhp, hT]; exact Nat.le_refl _)
    (g := { method := m, pc := pc + 4, locals := ls, stack := .ref T.heap.size :: .ref T.heap.size :: rest, locked := none }) rfl hsize rfl rfl (rest := rest) rfl
    (by rw [hb]; exact d4) (by rw [hb]; exact d7) hout hRframes (by simp only [List.map_cons, List.sum_cons, hcat]; omega) hlocks
  obtain ⟨f1, f2⟩ := vx_frame hsame
  rw [hhp] at f1 f2
  have hWs : s.WarmedH U.vm := State.WarmedH.trans hW0 hW
  have hcl : s.vm.findClass cls = some ce.cls := by
    have h9 := hO.cls
    rw [hvm] at h9
    exact h9
  have hall : s.sameButNew ({ U with vm := s.vm } : State) locs mc ms := by
    subst hA
    obtain ⟨e1, e2⟩ := hsame
    rw [State.setFrames_setFrames] at e1
    have h2 : (T.setVm s.vm).sameButNew ({ U with vm := s.vm } : State) [] (0 + 1) (0 + 6) := ⟨e1, e2⟩
    have h3 := X.same.trans h2
    rw [List.append_nil] at h3
    exact h3.mono hc hs
  refine ⟨U, ?_, .threw T.heap.size, hrun, hend, Or.inr ⟨T.heap.size, rfl, cls, ce, locs, hx U hWs.alike f1 (fun q hq => f2 q hq (fun z hz => nomatch hz)), hce, hO.vm, hcl, hWs, hall, hf⟩⟩
  refine st1 _ ?_
  show Steps p.tables e below (T1.setTop { method := m, pc := pc + 3, locals := ls, stack := .ref T.heap.size :: rest, locked := none }) _
  jvm_step X₁.here [X₁.here.top, hexec, d3', Value.category]
  exact hsteps
/-- 'throw new E("text")': new; dup; ldc; invokespecial; athrow -/
theorem vx_throwS {cc : ByteArray} {pc : Nat} (hexec : p.tables.exec = Jvm.exec) (hb : c.code = cc) (hl : l.stackTraces = false) {own cls text : String} {names : List String} {ik is ic mc ms sa : Nat} {A : Nat → Prop}
    (hown : s.vm.findClass own = some m.cls) (hcls : Bundle.fit cls = true) (hnames : ∀ n ∈ names, Bundle.fit n = true)
    (hk : (Cond.classLink own ik cls).before args s = true) (hini : (Cond.initialized cls).before args s = true) (hstr : vk_R own is text sa s) (hat : ∀ w ∈ vx_atS own ic cls names, w.before args s = true)
    (hgood : ∀ w ∈ Cond.classLink own ik cls :: Cond.initialized cls :: vx_atS own ic cls names, vx_ot w = true)
    (hU : vx_Zq Bundle.tN "UNASSIGNED_STACK" Bundle.steD A s s.heap) (hN : vx_Zq Bundle.tN "SUPPRESSED_SENTINEL" Bundle.listD A s s.heap) (hS : va_S A s.heap H locs) (hsize : ls.size = c.maxLocals)
    (d0 : decode cc pc = .ok (.new ik, 3)) (d3 : decode cc (pc + 3) = .ok (.dup, 1)) (d4 : decode cc (pc + 4) = .ok (.ldc is, 2)) (d6 : decode cc (pc + 6) = .ok (.invokespecial ic, 3)) (d9 : decode cc (pc + 9) = .ok (.athrow, 1))
    (hout : ∀ x ∈ c.exceptionTable.toList, covers x (pc + 9) = false)
    (hRframes : names.length + 3 < R.frames) (hRlocals : (rest.map fun v => v.category).sum + (13 * (names.length + 1) + 43) ≤ R.locals) (hRcells : cells + 1 ≤ R.cells) (hRslots : slots + 6 ≤ R.slots) (hlocks : meth.locks = false)
    (hx : ∀ t : State, s.vm.Alike t.vm → H.size ≤ t.heap.size → (∀ q : Nat, q < H.size → t.heap[q]? = H[q]?) → XC cls s t)
    (hf : ∀ z ∈ locs, free z.base) (hc : cells + 1 ≤ mc) (hs : slots + 6 ≤ ms) :
    W p l e R s m args below meth c H locs cells slots (vx_MQ below Qc XC args s mc ms free) (F0 m pc ls rest) := by
  intro T hT X
  have htr : e.platform.stackTraces = false := (show e.platform.stackTraces = l.stackTraces by rw [X.admits.platform]).trans hl
  have Y := vx_rebase X (R' := { frames := R.frames, locals := R.locals, cells := 1, slots := 6 }) (Nat.le_refl _) (Nat.le_refl _) hRcells hRslots
  obtain ⟨s', hA⟩ : ∃ z, z = (T.setVm s.vm).setFrames (.invoking m args :: below) := ⟨_, rfl⟩
  rw [← hA] at Y
  have hvm : s'.vm = s.vm := by rw [hA]; rfl
  have hhp : s'.heap = H := by rw [hA]; exact hT
  have hW0 : s.WarmedH s'.vm := by rw [hvm]; exact State.WarmedH.refl s
  have hat' : ∀ w ∈ vx_atS own ic cls names, w.before args s' = true := fun w hw => vx_ot_at hW0 hvm.symm (hgood w (List.mem_cons_of_mem _ (List.mem_cons_of_mem _ hw))) (hat w hw)
  have hk' : (Cond.classLink own ik cls).before args s' = true := vx_ot_at hW0 hvm.symm (hgood _ List.mem_cons_self) hk
  have hini' : (Cond.initialized cls).before args s' = true := vx_ot_at hW0 hvm.symm (hgood _ (List.mem_cons_of_mem _ List.mem_cons_self)) hini
  have hU' : vx_Zq Bundle.tN "UNASSIGNED_STACK" Bundle.steD A s' s'.heap := by rw [hhp]; exact vx_Zq.moved hW0.alike (hU.kept hS.2.1)
  have hN' : vx_Zq Bundle.tN "SUPPRESSED_SENTINEL" Bundle.listD A s' s'.heap := by rw [hhp]; exact vx_Zq.moved hW0.alike (hN.kept hS.2.1)
  have h : ∀ w ∈ Bundle.ownAtoms own ic cls names, w.before args s' = true := vx_own hat' (vx_isRefq hU'.1) (vx_isRefq hN'.1) hU'.2.word hN'.2.word
  have hown' : s'.vm.findClass own = some m.cls := by rw [hvm]; exact hown
  have hins : (Cond.instantiable cls 6).before args s' = true := h _ (by simp [Bundle.ownAtoms])
  obtain ⟨vm₁, cX, kX, hfX, hkX, -, -, X₁, st1⟩ := Y.newCold hexec (own := own) (C := cls) (index := ik) (n := 6) hown' hk' hins hini'
    (g := F0 m pc ls rest) rfl (by rw [hb]; exact d0) (Nat.le_refl _) (Nat.le_refl _)
  generalize hT1 : (T.setVm vm₁).pushCell { cls := cX, slots := kX.instanceTypes.map defaultValue, vm := .none } = T1 at X₁ st1
  have hcat : (Value.ref T.heap.size).category = 1 := rfl
  have hcellA : T1.heap[T.heap.size]? = some (freshCell cX kX) := by rw [← hT1]; exact State.heap_pushCell_size _ _
  have d3' : decode c.code (pc + 3) = .ok (.dup, 1) := by rw [hb]; exact d3
  have d4' : decode c.code (pc + 4) = .ok (.ldc is, 2) := by rw [hb]; exact d4
  have hstr' : vk_R own is text sa s' := vk_R.warm hW0 hstr
  obtain ⟨U, hsteps, hrun, hend, hW, hsame, ce, hce, hO⟩ := X₁.ctorThrowS hexec htr (own := own) (cls := cls) (names := names) (ic := ic) hown' hcls hnames h (fun x hx => nomatch hx) hfX hkX hcellA (by rw [hhp, hT]; exact Nat.le_refl _) (msg := .ref sa) rfl
    (g := { method := m, pc := pc + 6, locals := ls, stack := .ref sa :: .ref T.heap.size :: .ref T.heap.size :: rest, locked := none }) rfl hsize rfl rfl (rest := rest) rfl
    (by rw [hb]; exact d6) (by rw [hb]; exact d9) hout hRframes (by simp only [List.map_cons, List.sum_cons, hcat]; omega) hlocks
  obtain ⟨f1, f2⟩ := vx_frame hsame
  rw [hhp] at f1 f2
  have hWs : s.WarmedH U.vm := State.WarmedH.trans hW0 hW
  have hcl : s.vm.findClass cls = some ce.cls := by
    have h9 := hO.cls
    rw [hvm] at h9
    exact h9
  have hall : s.sameButNew ({ U with vm := s.vm } : State) locs mc ms := by
    subst hA
    obtain ⟨e1, e2⟩ := hsame
    rw [State.setFrames_setFrames] at e1
    have h2 : (T.setVm s.vm).sameButNew ({ U with vm := s.vm } : State) [] (0 + 1) (0 + 6) := ⟨e1, e2⟩
    have h3 := X.same.trans h2
    rw [List.append_nil] at h3
    exact h3.mono hc hs
  refine ⟨U, ?_, .threw T.heap.size, hrun, hend, Or.inr ⟨T.heap.size, rfl, cls, ce, locs, hx U hWs.alike f1 (fun q hq => f2 q hq (fun z hz => nomatch hz)), hce, hO.vm, hcl, hWs, hall, hf⟩⟩
  refine st1 _ ?_
  show Steps p.tables e below (T1.setTop { method := m, pc := pc + 3, locals := ls, stack := .ref T.heap.size :: rest, locked := none }) _
  jvm_step X₁.here [X₁.here.top, hexec, d3', Value.category]
  exact X₁.ldcString hexec (own := own) (text := text) (index := is) (a := sa) hown' hstr'.1 hstr'.2
    (g := { method := m, pc := pc + 4, locals := ls, stack := .ref T.heap.size :: .ref T.heap.size :: rest, locked := none }) rfl d4' _ hsteps
/-- 'throw new E("text")', the text by a wide index -/
theorem vx_throwSW {cc : ByteArray} {pc : Nat} (hexec : p.tables.exec = Jvm.exec) (hb : c.code = cc) (hl : l.stackTraces = false) {own cls text : String} {names : List String} {ik is ic mc ms sa : Nat} {A : Nat → Prop}
    (hown : s.vm.findClass own = some m.cls) (hcls : Bundle.fit cls = true) (hnames : ∀ n ∈ names, Bundle.fit n = true)
    (hk : (Cond.classLink own ik cls).before args s = true) (hini : (Cond.initialized cls).before args s = true) (hstr : vk_R own is text sa s) (hat : ∀ w ∈ vx_atS own ic cls names, w.before args s = true)
    (hgood : ∀ w ∈ Cond.classLink own ik cls :: Cond.initialized cls :: vx_atS own ic cls names, vx_ot w = true)
    (hU : vx_Zq Bundle.tN "UNASSIGNED_STACK" Bundle.steD A s s.heap) (hN : vx_Zq Bundle.tN "SUPPRESSED_SENTINEL" Bundle.listD A s s.heap) (hS : va_S A s.heap H locs) (hsize : ls.size = c.maxLocals)
    (d0 : decode cc pc = .ok (.new ik, 3)) (d3 : decode cc (pc + 3) = .ok (.dup, 1)) (d4 : decode cc (pc + 4) = .ok (.ldc_w is, 3)) (d7 : decode cc (pc + 7) = .ok (.invokespecial ic, 3)) (d10 : decode cc (pc + 10) = .ok (.athrow, 1))
    (hout : ∀ x ∈ c.exceptionTable.toList, covers x (pc + 10) = false)
    (hRframes : names.length + 3 < R.frames) (hRlocals : (rest.map fun v => v.category).sum + (13 * (names.length + 1) + 43) ≤ R.locals) (hRcells : cells + 1 ≤ R.cells) (hRslots : slots + 6 ≤ R.slots) (hlocks : meth.locks = false)
    (hx : ∀ t : State, s.vm.Alike t.vm → H.size ≤ t.heap.size → (∀ q : Nat, q < H.size → t.heap[q]? = H[q]?) → XC cls s t)
    (hf : ∀ z ∈ locs, free z.base) (hc : cells + 1 ≤ mc) (hs : slots + 6 ≤ ms) :
    W p l e R s m args below meth c H locs cells slots (vx_MQ below Qc XC args s mc ms free) (F0 m pc ls rest) := by
  intro T hT X
  have htr : e.platform.stackTraces = false := (show e.platform.stackTraces = l.stackTraces by rw [X.admits.platform]).trans hl
  have Y := vx_rebase X (R' := { frames := R.frames, locals := R.locals, cells := 1, slots := 6 }) (Nat.le_refl _) (Nat.le_refl _) hRcells hRslots
  obtain ⟨s', hA⟩ : ∃ z, z = (T.setVm s.vm).setFrames (.invoking m args :: below) := ⟨_, rfl⟩
  rw [← hA] at Y
  have hvm : s'.vm = s.vm := by rw [hA]; rfl
  have hhp : s'.heap = H := by rw [hA]; exact hT
  have hW0 : s.WarmedH s'.vm := by rw [hvm]; exact State.WarmedH.refl s
  have hat' : ∀ w ∈ vx_atS own ic cls names, w.before args s' = true := fun w hw => vx_ot_at hW0 hvm.symm (hgood w (List.mem_cons_of_mem _ (List.mem_cons_of_mem _ hw))) (hat w hw)
  have hk' : (Cond.classLink own ik cls).before args s' = true := vx_ot_at hW0 hvm.symm (hgood _ List.mem_cons_self) hk
  have hini' : (Cond.initialized cls).before args s' = true := vx_ot_at hW0 hvm.symm (hgood _ (List.mem_cons_of_mem _ List.mem_cons_self)) hini
  have hU' : vx_Zq Bundle.tN "UNASSIGNED_STACK" Bundle.steD A s' s'.heap := by rw [hhp]; exact vx_Zq.moved hW0.alike (hU.kept hS.2.1)
  have hN' : vx_Zq Bundle.tN "SUPPRESSED_SENTINEL" Bundle.listD A s' s'.heap := by rw [hhp]; exact vx_Zq.moved hW0.alike (hN.kept hS.2.1)
  have h : ∀ w ∈ Bundle.ownAtoms own ic cls names, w.before args s' = true := vx_own hat' (vx_isRefq hU'.1) (vx_isRefq hN'.1) hU'.2.word hN'.2.word
  have hown' : s'.vm.findClass own = some m.cls := by rw [hvm]; exact hown
  have hins : (Cond.instantiable cls 6).before args s' = true := h _ (by simp [Bundle.ownAtoms])
  obtain ⟨vm₁, cX, kX, hfX, hkX, -, -, X₁, st1⟩ := Y.newCold hexec (own := own) (C := cls) (index := ik) (n := 6) hown' hk' hins hini'
    (g := F0 m pc ls rest) rfl (by rw [hb]; exact d0) (Nat.le_refl _) (Nat.le_refl _)
  generalize hT1 : (T.setVm vm₁).pushCell { cls := cX, slots := kX.instanceTypes.map defaultValue, vm := .none } = T1 at X₁ st1
  have hcat : (Value.ref T.heap.size).category = 1 := rfl
  have hcellA : T1.heap[T.heap.size]? = some (freshCell cX kX) := by rw [← hT1]; exact State.heap_pushCell_size _ _
  have d3' : decode c.code (pc + 3) = .ok (.dup, 1) := by rw [hb]; exact d3
  have d4' : decode c.code (pc + 4) = .ok (.ldc_w is, 3) := by rw [hb]; exact d4
  have hstr' : vk_R own is text sa s' := vk_R.warm hW0 hstr
  obtain ⟨U, hsteps, hrun, hend, hW, hsame, ce, hce, hO⟩ := X₁.ctorThrowS hexec htr (own := own) (cls := cls) (names := names) (ic := ic) hown' hcls hnames h (fun x hx => nomatch hx) hfX hkX hcellA (by rw [hhp, hT]; exact Nat.le_refl _) (msg := .ref sa) rfl
    (g := { method := m, pc := pc + 7, locals := ls, stack := .ref sa :: .ref T.heap.size :: .ref T.heap.size :: rest, locked := none }) rfl hsize rfl rfl (rest := rest) rfl
    (by rw [hb]; exact d7) (by rw [hb]; exact d10) hout hRframes (by simp only [List.map_cons, List.sum_cons, hcat]; omega) hlocks
  obtain ⟨f1, f2⟩ := vx_frame hsame
  rw [hhp] at f1 f2
  have hWs : s.WarmedH U.vm := State.WarmedH.trans hW0 hW
  have hcl : s.vm.findClass cls = some ce.cls := by
    have h9 := hO.cls
    rw [hvm] at h9
    exact h9
  have hall : s.sameButNew ({ U with vm := s.vm } : State) locs mc ms := by
    subst hA
    obtain ⟨e1, e2⟩ := hsame
    rw [State.setFrames_setFrames] at e1
    have h2 : (T.setVm s.vm).sameButNew ({ U with vm := s.vm } : State) [] (0 + 1) (0 + 6) := ⟨e1, e2⟩
    have h3 := X.same.trans h2
    rw [List.append_nil] at h3
    exact h3.mono hc hs
  refine ⟨U, ?_, .threw T.heap.size, hrun, hend, Or.inr ⟨T.heap.size, rfl, cls, ce, locs, hx U hWs.alike f1 (fun q hq => f2 q hq (fun z hz => nomatch hz)), hce, hO.vm, hcl, hWs, hall, hf⟩⟩
  refine st1 _ ?_
  show Steps p.tables e below (T1.setTop { method := m, pc := pc + 3, locals := ls, stack := .ref T.heap.size :: rest, locked := none }) _
  jvm_step X₁.here [X₁.here.top, hexec, d3', Value.category]
  exact X₁.ldcStringW hexec (own := own) (text := text) (index := is) (a := sa) hown' hstr'.1 hstr'.2
    (g := { method := m, pc := pc + 4, locals := ls, stack := .ref T.heap.size :: .ref T.heap.size :: rest, locked := none }) rfl d4' _ hsteps
end Ends
section Bodies
variable {l : Launch}
theorem vx_ofW {y : MethodName} {ws ws' : List Cond} {rm : Room} {Pc : Array Value → State → Prop} {Qc : Array Value → State → Outcome → State → Prop} {XC : String → State → State → Prop} {mc ms : Nat} {free : Addr → Prop} {cc : ByteArray} {maxL : Nat} {ret : Option FieldType}
    (hy : plainName y.cls = true) (hw : ws = Cond.code y cc maxL ret :: ws')
    (body : ∀ p e s m args below meth c s₁, BodyLoose p l y (headSpec ws rm) cc maxL ret e s m args below meth c s₁ → c.maxLocals = maxL → (∀ x ∈ c.exceptionTable.toList, False) → Pc args s →
      W p l e (headSpec ws rm).room s m args below meth c s.heap [] 0 0 (vx_MQ below Qc XC args s mc ms free) (entryFrame m args maxL)) : vx_Met l y ws rm Pc Qc XC mc ms free := by
  refine MetFree.of_bodyS (code := cc) (maxLocals := maxL) (ret := ret) hy ?_ ?_
  · intro args s m h hn
    obtain ⟨meth, c, h1, h2, h3, h4, h5, h6, -, -⟩ := Cond.code_spec hn (atoms_spec (ws := ws) h _ (by rw [hw]; exact List.mem_cons_self))
    exact ⟨meth, c, h1, h2, h3, h4, h5, h6⟩
  · intro p e s m args below meth c s₁ B hml hP _
    have hh0 : s₁.heap = s.heap := by rw [B.state]; rfl
    have ht : ∀ x ∈ c.exceptionTable.toList, False := by
      obtain ⟨meth9, c9, h1, h2, -, -, -, -, h7, -⟩ := Cond.code_spec B.named (atoms_spec (ws := ws) B.pre _ (by rw [hw]; exact List.mem_cons_self))
      cases Option.some.inj (h1.symm.trans B.method)
      cases Option.some.inj (h2.symm.trans (Stand.of_body B).code)
      intro x hx
      rw [Array.isEmpty_iff.mp h7] at hx
      cases hx
    obtain ⟨t, a1, o, b1, b2, b3⟩ := body p e s m args below meth c s₁ B hml ht hP s₁ hh0 (Stand.of_body B)
    exact ⟨t, o, a1, b1, b2, b3⟩
/-- the table of a body with handlers -/
theorem vx_table {p : Program} {x y : MethodName} {S : Spec} {cc bytes : ByteArray} {maxL maxL' : Nat} {ret ret' : Option FieldType} {e : Env} {s s₁ : State} {m : MethodId} {args : Array Value} {below : List Frame} {meth : Method} {c : Code} {hh : List (Nat × Nat × Nat × Nat)}
    (B : BodyLoose p l y S cc maxL ret e s m args below meth c s₁) (h : (Cond.codeWith y bytes maxL' ret' hh).before args s = true) : c.exceptionTable.toList = tableOf hh := by
  obtain ⟨m9, meth9, c9, hn9, h1, h2, -, -, h6, -⟩ := Cond.codeWith_spec h
  cases Option.some.inj (hn9.symm.trans B.named)
  cases Option.some.inj (h1.symm.trans B.method)
  cases Option.some.inj (h2.symm.trans (Stand.of_body B).code)
  rw [← h6, table_eq]
end Bodies
end VXA
/-! ===== END ===== -/
/-! ===== BEGIN a static call of a method with an exception table ===== -/
section VXS
variable {p : Program} {l : Launch} {e : Env} {R : Room} {s : State} {m : MethodId} {args : Array Value} {below : List Frame} {meth : Method} {c : Code} {T : State} {H : Heap} {locs : List Loc} {cells slots : Nat}
abbrev vx_CSW (R : Room) (s : State) (args : Array Value) (own : String) (index : Nat) (y : MethodName) (bytes : ByteArray) (maxL : Nat) (ret : Option FieldType) (hh : List (Nat × Nat × Nat × Nat)) (ws : List Cond) (rm : Room) (mc ms n : Nat) : Prop :=
  (rm.cells = mc ∧ rm.slots = ms ∧ rm.frames + 1 ≤ R.frames ∧ 8 + (maxL + 11) + rm.locals ≤ R.locals ∧ (∀ w ∈ ws, ∀ (a' : Array Value) (U : State), s.WarmedH U.vm → w.before a' U = true) ∧ Cond.codeWith y bytes maxL ret hh ∈ ws) ∧
  (Cond.codeWith y bytes maxL ret hh).before args s = true ∧ (Cond.initialized y.cls).before args s = true ∧ (y.cls ≠ "java/lang/invoke/MethodHandle" ∧ y.cls ≠ "java/lang/invoke/VarHandle") ∧
  (∀ sig, parseMethodDescriptor y.desc = some sig → n = sig.parameters.length) ∧ (Cond.methodLink own index y).before args s = true ∧ (Cond.static y).before args s = true
theorem vx_cwSW {own : String} {index maxL mc ms : Nat} {y : MethodName} {bytes : ByteArray} {ret : Option FieldType} {hh : List (Nat × Nat × Nat × Nat)} {Ts ws ws' : List Cond} {rm : Room} (n : Nat) (ht : ∀ w ∈ Ts, w.before args s = true) (hT : GoodIn Ts (va_wsS own index y ws)) (hw : ws = Cond.codeWith y bytes maxL ret hh :: ws') (hrc : rm.cells = mc) (hrs : rm.slots = ms)
    (hd : y.cls ≠ "java/lang/invoke/MethodHandle" ∧ y.cls ≠ "java/lang/invoke/VarHandle" ∧ (parseMethodDescriptor y.desc).map (fun d => d.parameters.length) = some n) (hR : rm.frames + 1 ≤ R.frames ∧ 8 + (maxL + 11) + rm.locals ≤ R.locals) :
    vx_CSW R s args own index y bytes maxL ret hh ws rm mc ms n := by
  have ok : ∀ w ∈ va_wsS own index y ws, w.before args s = true := fun w h => ht w (hT w h).1
  have hG : GoodIn Ts ws := fun w h => hT w (by unfold va_wsS; exact List.mem_append_right _ h)
  have hc : Cond.codeWith y bytes maxL ret hh ∈ ws := by rw [hw]; exact List.mem_cons_self
  refine ⟨⟨hrc, hrs, hR.1, hR.2, pay_in ht hG, hc⟩, ht _ (hG _ hc).1, ok _ (by simp [va_wsS]), ⟨hd.1, hd.2.1⟩, fun sig h => ?_, ok _ (by simp [va_wsS]), ok _ (by simp [va_wsS])⟩
  have h2 := hd.2.2
  rw [h] at h2
  exact (Option.some.inj h2).symm
theorem vx_callSW (X : Stand p l e R s m args below meth c T locs cells slots) (hexec : p.tables.exec = Jvm.exec) {own : String} {index : Nat} {y : MethodName} {bytes : ByteArray} {maxL : Nat} {ret : Option FieldType} {hh : List (Nat × Nat × Nat × Nat)}
    (hown : s.vm.findClass own = some m.cls) (hlink : (Cond.methodLink own index y).before args s = true) (hstat : (Cond.static y).before args s = true) (hinit : (Cond.initialized y.cls).before args s = true)
    (hcode : (Cond.codeWith y bytes maxL ret hh).before args s = true) (hy : y.cls ≠ "java/lang/invoke/MethodHandle" ∧ y.cls ≠ "java/lang/invoke/VarHandle")
    {W9 : Nat} {Pre : Pt → Array Value → Prop} {Post : Pt → Array Value → Option Value → Pt → Prop} (hK : Back l R p e below s args y 3 W9 Pre Post)
    {g : JFrame} (hg : g.method = m) (hsize : g.locals.size = c.maxLocals) {argsL rest : List Value} (hlen : ∀ sig, parseMethodDescriptor y.desc = some sig → argsL.length = sig.parameters.length)
    (hstack : g.stack = argsL.reverse ++ rest) (hW : 2 * g.monitorRoom + (rest.map fun v => v.category).sum ≤ W9) (hdg : decode c.code g.pc = .ok (.invokestatic index, 3))
    (hpre : ∀ vm₁, s.WarmedH vm₁ → Pre ⟨T.setVm vm₁, locs, cells, slots⟩ argsL.toArray) :
    ∃ (v : Option Value) (vm₁ : Vm) (B : Pt), s.WarmedH vm₁ ∧ Stand p l e R s m args below meth c B.U B.locs B.cells B.slots ∧ Post ⟨T.setVm vm₁, locs, cells, slots⟩ argsL.toArray v B ∧
      ∀ target, Steps p.tables e below (B.U.setTop { g with pc := g.pc + 3, stack := v.toList ++ rest }) target → Steps p.tables e below (T.setTop g) target := by
  obtain ⟨mk, methM, cM, hnamed, hmethM, -, -, -, -, -, -, hsigM⟩ := Cond.codeWith_spec hcode
  have hstatic : methM.isStatic = true := Cond.static_spec hnamed hmethM hstat
  obtain ⟨kP, hkP, -⟩ := className_of_methodNamed hnamed
  have hinitP : kP.init = .initialized := Cond.initialized_spec (findClass_of_methodNamed hnamed) hkP hinit
  obtain ⟨vm₁, X₁, hstep₁⟩ := X.invokestatic hexec hown hlink hnamed hmethM hstatic hkP hinitP hy (g := g) hg (argsL := argsL) (rest := rest) (hlen _ hsigM) hstack hdg
  obtain ⟨v, B, X', hpost, hsteps⟩ := hK m meth c ⟨T.setVm vm₁, locs, cells, slots⟩ { g with stack := rest } (.invokestatic index) mk argsL.toArray X₁ hg hsize hdg hW (X₁.named hnamed) (hpre vm₁ X₁.warmed)
  exact ⟨v, vm₁, B, X₁.warmed, X', hpost, fun target h => hstep₁ _ fun acts => by rw [doInvoke_state]; exact hsteps.trans h⟩
theorem vx_runSW {y : MethodName} {bytes cc : ByteArray} {maxL nL mc ms n index : Nat} {ret : Option FieldType} {hh : List (Nat × Nat × Nat × Nat)} {ws : List Cond} {rm : Room} {Pc : Array Value → State → Prop} {Qc : Array Value → State → Outcome → State → Prop} {free : Addr → Prop} {Ts : List Cond} {own : String} {As rest : List Value} {g : JFrame}
    (S : CallFix p m c cc nL s args Ts own) (hM : Met l y ws rm Pc Qc mc ms free) (cw : vx_CSW R s args own index y bytes maxL ret hh ws rm mc ms n) (hp : PreS s H Pc As)
    (hg : g.method = m) (hn : As.length = n) (hsize : g.locals.size = nL) (hstack : g.stack = As.reverse ++ rest) (hW : 2 * g.monitorRoom + (rest.map fun v => v.category).sum ≤ 8) (hdg : decode cc g.pc = .ok (.invokestatic index, 3)) (hf : cells + mc ≤ R.cells ∧ slots + ms ≤ R.slots) :
    va_Run p l e R s m args below meth c H locs cells slots mc ms g rest (Qc As.toArray) (free) := by
  obtain ⟨⟨hrc, hrs, hfr, hlo, hws, hcw⟩, hcode, hini, hy, hlen, hl, hstt⟩ := cw
  have hK : Back l R p e below s args y 3 8 (PreOf R mc ms Pc) (PostOf Qc mc ms free) := va_backW (hh := hh) (bytes := bytes) (maxL := maxL) (ret := ret) hM hp.1 hrc hrs hfr hlo hws hcw (fun a' U hW => word_at hW (Or.inl (by first | rfl | simp [Cond.onTables, Cond.keeps, Cond.steady])) hini)
  obtain ⟨hx, hb, hml, ho, -⟩ := S
  intro T hT X
  obtain ⟨v, vm₁, ⟨U', l2, c2, s2⟩, hW₁, X', ⟨g', mk, t, L, e1, e2, hq, h1, hL, h2, h3⟩, st⟩ := vx_callSW X hx (hh := hh) (bytes := bytes) (maxL := maxL) (ret := ret) ho hl hstt hini hcode hy hK hg (hsize.trans hml.symm) (argsL := As) (rest := rest) (fun sig h => hn.trans (hlen sig h)) hstack hW (by rw [hb]; exact hdg)
    (fun vm₁ hW₁ => ⟨hf.1, hf.2, hp.2 (T.setVm vm₁) hT hW₁⟩)
  dsimp only [Pt.U, Pt.locs, Pt.cells, Pt.slots] at X' e1 e2 h1 h2 h3 st
  subst h1; subst h2; subst h3
  exact ⟨v, (T.setVm vm₁).calling g' mk As.toArray, t, U', L, hT, X', hL, e1, e2, hq, st⟩
/-- not caught here, past rows that name other classes: it goes on to the caller -/
theorem vx_outP {p : Program} {l : Launch} {e : Env} {R : Room} {s : State} {m : MethodId} {args : Array Value} {below : List Frame} {meth : Method} {c : Code} {H : Heap} {locs : List Loc} {cells slots : Nat} {free : Addr → Prop} {ls : Array Slot} {rest : List Value} {Qc : Array Value → State → Outcome → State → Prop} {XC : String → State → State → Prop}
    {pc : Nat} {own E : String} {ce : Cell} {q : Addr} {mc ms : Nat} (hown : s.vm.findClass own = some m.cls) (hlocks : meth.locks = false)
    (hpass : ∀ z ∈ c.exceptionTable.toList, covers z pc = false ∨ (z.catchType ≠ 0 ∧ ∃ nm : String, (Cond.classLink own z.catchType nm).before args s = true ∧ va_Nc E nm s)) (hcell : H[q]? = some ce) (hv : ce.vm = .none) (hcl : s.vm.findClass E = some ce.cls)
    (hx : ∀ t : State, t.heap = H → s.vm.Alike t.vm → XC E s t) (hf : ∀ z ∈ locs, free z.base) (hc : cells ≤ mc) (hs : slots ≤ ms) :
    vx_W p l e R s m args below meth c H locs cells slots (vx_MQ below Qc XC args s mc ms free) (F0 m pc ls rest) q := by
  intro T hT X
  have hpl : e.platform.magicAccessors = ({} : Platform).magicAccessors := by rw [X.admits.platform]
  obtain ⟨vm', hW', X', st⟩ := X.outThrough hlocks q (g := F0 m pc ls rest) rfl rfl rfl (cell := ce) (by rw [hT]; exact hcell) (by rw [hv]; rfl)
    (by obtain ⟨k9, h9, -⟩ := Vm.findClass_spec hcl; exact ⟨k9, h9⟩) (fun z hz => by
      rcases hpass z hz with h | ⟨hz0, nm, hl1, hn1⟩
      · exact Or.inl h
      · obtain ⟨c6, hc6, hcl6⟩ := Cond.classLink_spec hown hl1 e.platform hpl
        obtain ⟨a8, b8, h1, h2, h3⟩ := hn1
        cases Option.some.inj (h1.symm.trans hcl)
        cases Option.some.inj (h2.symm.trans hc6)
        exact Or.inr ⟨hz0, _, hcl6, h3⟩)
  obtain ⟨g₀, hfr⟩ := X'.frames_eq
  have hcell9 : ((T.setVm vm').setFrames (.throwing q :: below)).heap[q]? = some ce := by
    show T.heap[q]? = some ce
    rw [hT]; exact hcell
  have hend : Ended ((T.setVm vm').setFrames (.throwing q :: below)) below (.threw q) := State.frames_setFrames _ (State.cur_lt_of_frames hfr)
  refine ⟨(T.setVm vm').setFrames (.throwing q :: below), ?_, .threw q, X'.here.running, hend, Or.inr ⟨q, rfl, E, ce, locs, hx _ hT (X'.ends _).1.alike, hcell9, hv, hcl, (X'.ends _).1, (X'.ends _).2.mono hc hs, hf⟩⟩
  rw [X.pushThrowing_eq]
  exact st
/-- a thing of a world lies in the heap -/
theorem vx_lt {D : va_G} {cl : List vw_C} {ws : va_W} {H1 : Heap} (h : va_P D cl ws H1) {k : Nat} {q : Nat × va_E} (hk : ws[k]? = some q) : q.1 < H1.size := (h k q hk).lt
end VXS
/-! ===== END ===== -/
/-! ===== BEGIN methods with a table of their own: called by a name, returning or throwing ===== -/
section VXH
/-! vx_backW, vx_callVX, vx_callSX, vx_callVW, vx_runVW, vx_runVX, vx_runSX, vx_ofWH follow the same proofs as their sisters above (Free/Laws.lean, Shelf42/LK1.lean); vx_outP calls Shelf42/NT130.lean (outThrough). -/
section
variable {l : Launch} {R : Room} {p : Program} {e : Env} {below : List Frame} {s : State} {sargs : Array Value} {y : MethodName} {len W9 : Nat}
theorem vx_backW {ws : List Cond} {rm : Room} {Pc : Array Value → State → Prop} {Qc : Array Value → State → Outcome → State → Prop} {XC : String → State → State → Prop} {mc ms : Nat} {free : Addr → Prop} {bytes : ByteArray} {maxL : Nat} {ret : Option FieldType} {hh : List (Nat × Nat × Nat × Nat)}
    (hM : vx_Met l y ws rm Pc Qc XC mc ms free) (hblind : FrameBlind Pc) (hrc : rm.cells = mc) (hrs : rm.slots = ms)
    (hframes : rm.frames + 1 ≤ R.frames) (hlocals : W9 + (maxL + 11) + rm.locals ≤ R.locals)
    (hws : ∀ w ∈ ws, ∀ a' U, s.WarmedH U.vm → w.before a' U = true) (hcode : Cond.codeWith y bytes maxL ret hh ∈ ws) (hinit : ∀ a' U, s.WarmedH U.vm → (Cond.initialized y.cls).before a' U = true) :
    vx_Back l R p e below s sargs y len W9 (PreOf R mc ms Pc) (PostOf Qc mc ms free) (vx_Post XC mc ms free) := by
  intro m meth c A g ig mk a X hg hsize hdg hW hn hp
  have h1 : (headSpec ws rm).pre.before a A.U = true := atoms_intro fun w hw => hws w hw _ _ X.warmed
  have h2 : (Cond.codeWith y bytes maxL ret hh).before a A.U = true := hws _ hcode _ _ X.warmed
  have h3 : (Cond.initialized y.cls).before a A.U = true := hinit _ _ X.warmed
  have h4 : A.cells + (headSpec ws rm).room.cells ≤ R.cells := by rw [show (headSpec ws rm).room.cells = mc from hrc]; exact hp.1
  have h5 : A.slots + (headSpec ws rm).room.slots ≤ R.slots := by rw [show (headSpec ws rm).room.slots = ms from hrs]; exact hp.2.1
  have hPc : Pc a (A.U.calling g mk a) := hblind _ _ _ _ hp.2.2
  obtain ⟨U, Ls, c0, s0⟩ := A
  dsimp only [Pt.U, Pt.locs, Pt.cells, Pt.slots] at h1 h2 h3 h4 h5 X hn hPc ⊢
  obtain ⟨m9, methY, cY, hn9, hmY, hcY, -, hlY, -⟩ := Cond.codeWith_spec h2
  cases Option.some.inj (hn9.symm.trans hn)
  obtain ⟨kY, hkY, -⟩ := className_of_methodNamed hn
  have hinitY : kY.init = .initialized := Cond.initialized_spec (findClass_of_methodNamed hn) hkY h3
  have h : At U g.method c below := by rw [hg]; exact X.here
  have hlocals9 : W9 + (maxL + 11) + (headSpec ws rm).room.locals ≤ R.locals := hlocals
  have happ : (headSpec ws rm).appliesLoose y e.platform (U.calling g mk a) = true :=
    Spec.appliesLoose_calling (g := g) h hdg hn hkY hinitY
      (X.room_calling (g := g) (R' := (headSpec ws rm).room) hsize hmY hcY hframes (by rw [hlY]; omega) h4 h5) h1
  obtain ⟨mid, hmid⟩ := h.above
  have hfr : (U.setTop g).frames = (.java g :: mid) ++ below := by rw [State.frames_setTop' g h.top, hmid]; rfl
  obtain ⟨o, s₂, hsteps, -, hend, hq⟩ := Steps.callFree hM p X.admits X.cas X.clock (acts := []) hfr happ hPc trivial
  have hq' : vx_Q Qc XC mc ms free a (U.calling g mk a) o s₂ := hq
  rw [State.frames_setTop' g h.top] at hend
  obtain ⟨g₀, hg0⟩ := Option.isSome_iff_exists.mp h.top
  obtain ⟨r, hr⟩ := State.topJava?_eq_some.mp hg0
  have hr' : (({ U with heap := s₂.heap, slotsUsed := s₂.slotsUsed } : State).setVm s₂.vm).frames = .java g₀ :: r := hr
  rcases hq' with ⟨hqc, L, hfe, hL⟩ | ⟨q, rfl, E, ce, L, hx, hce, hcv, hcl, hW₂, hsm, hL⟩
  · obtain ⟨⟨v, rfl⟩, hW₂, e2, q2, q3, q4, q5, q6⟩ := id hfe
    have e3 : s₂ = ({ (U.calling g mk a).setFrames s₂.frames with heap := s₂.heap, slotsUsed := s₂.slotsUsed } : State).setVm s₂.vm := by
      have : s₂ = ({ s₂ with vm := (U.calling g mk a).vm } : State).setVm s₂.vm := rfl
      rw [e2] at this
      exact this
    obtain ⟨c₂, i₂, len₂, hc₂, hd₂, hf₂⟩ := hend
    have hW' : U.WarmedH s₂.vm := hW₂
    have hcc : c₂ = c := by
      have h1 : s₂.code? g.method = U.code? g.method := by
        rw [State.code?_eq, State.code?_eq, hW'.alike.method?]
      exact Option.some.inj (hc₂.symm.trans (h1.trans h.code))
    subst hcc
    have hlen : len₂ = len := by rw [hdg] at hd₂; cases hd₂; rfl
    subst hlen
    have hs₂ : s₂ = (({ U with heap := s₂.heap, slotsUsed := s₂.slotsUsed } : State).setVm s₂.vm).setTop { g with pc := g.pc + len₂, stack := v.toList ++ g.stack } := by
      refine e3.trans ?_
      rw [hf₂, State.calling_eq h.top, State.setFrames_setFrames, State.setTop_of_frames _ hr', hr]
      rfl
    have hsame : U.sameButNew ({ U with heap := s₂.heap, slotsUsed := s₂.slotsUsed } : State) L mc ms := by
      refine ⟨?_, q2, q3, q4, q5, q6⟩
      obtain ⟨t, ht, -⟩ := State.frames_cons hr
      show ({ U with heap := s₂.heap, slotsUsed := s₂.slotsUsed } : State) = { U.setFrames U.frames with heap := s₂.heap, slotsUsed := s₂.slotsUsed }
      rw [State.setFrames_self ht]
    subst hg
    refine Or.inl ⟨v, ⟨(({ U with heap := s₂.heap, slotsUsed := s₂.slotsUsed } : State).setVm s₂.vm), Ls ++ L, c0 + mc, s0 + ms⟩,
      ⟨X.admits, X.cas, X.clock, X.frames, X.room, X.hears, X.method, X.code, (X.here.setHeapUsed s₂.heap s₂.slotsUsed).setVm hW'.alike, X.tail, State.WarmedH.trans X.warmed hW', X.limits, X.bytes, X.same.trans (hsame.setVm s.vm)⟩,
      ⟨g, mk, s₂, L, rfl, rfl, hqc, rfl, hL, rfl, rfl⟩, ?_⟩
    show Steps p.tables e below _ ((({ U with heap := s₂.heap, slotsUsed := s₂.slotsUsed } : State).setVm s₂.vm).setTop { g with pc := g.pc + len₂, stack := v.toList ++ g.stack })
    rw [← hs₂]
    exact hsteps
  · obtain ⟨e2, q2, q3, q4, q5, q6⟩ := id hsm
    have e3 : s₂ = ({ (U.calling g mk a).setFrames s₂.frames with heap := s₂.heap, slotsUsed := s₂.slotsUsed } : State).setVm s₂.vm := by
      have : s₂ = ({ s₂ with vm := (U.calling g mk a).vm } : State).setVm s₂.vm := rfl
      rw [e2] at this
      exact this
    have hf₂ : s₂.frames = .throwing q :: .java g :: U.frames.tail := hend
    have hW' : U.WarmedH s₂.vm := hW₂
    have hs₂ : s₂ = ((({ U with heap := s₂.heap, slotsUsed := s₂.slotsUsed } : State).setVm s₂.vm).setTop g).pushFrame (.throwing q) := by
      refine e3.trans ?_
      rw [hf₂, State.calling_eq h.top, State.setFrames_setFrames, State.pushFrame, State.frames_setTop _ hr', State.setTop_of_frames _ hr', State.setFrames_setFrames, hr]
      rfl
    have hsame : U.sameButNew ({ U with heap := s₂.heap, slotsUsed := s₂.slotsUsed } : State) L mc ms := by
      refine ⟨?_, q2, q3, q4, q5, q6⟩
      obtain ⟨t, ht, -⟩ := State.frames_cons hr
      show ({ U with heap := s₂.heap, slotsUsed := s₂.slotsUsed } : State) = { U.setFrames U.frames with heap := s₂.heap, slotsUsed := s₂.slotsUsed }
      rw [State.setFrames_self ht]
    subst hg
    refine Or.inr ⟨q, ⟨(({ U with heap := s₂.heap, slotsUsed := s₂.slotsUsed } : State).setVm s₂.vm), Ls ++ L, c0 + mc, s0 + ms⟩,
      ⟨X.admits, X.cas, X.clock, X.frames, X.room, X.hears, X.method, X.code, (X.here.setHeapUsed s₂.heap s₂.slotsUsed).setVm hW'.alike, X.tail, State.WarmedH.trans X.warmed hW', X.limits, X.bytes, X.same.trans (hsame.setVm s.vm)⟩,
      ⟨g, mk, s₂, L, E, ce, rfl, rfl, hx, hce, hcv, hcl, rfl, hL, rfl, rfl⟩, ?_⟩
    show Steps p.tables e below _ (((({ U with heap := s₂.heap, slotsUsed := s₂.slotsUsed } : State).setVm s₂.vm).setTop g).pushFrame (.throwing q))
    rw [← hs₂]
    exact hsteps
end
variable {p : Program} {l : Launch} {e : Env} {R : Room} {s : State} {m : MethodId} {args : Array Value} {below : List Frame} {meth : Method} {c : Code} {T : State} {H : Heap} {locs : List Loc} {cells slots : Nat}
theorem vx_callVX (X : Stand p l e R s m args below meth c T locs cells slots) (hexec : p.tables.exec = Jvm.exec) {own C : String} {index : Nat} {y : MethodName} {bytes : ByteArray} {maxL : Nat} {ret : Option FieldType} {hh : List (Nat × Nat × Nat × Nat)}
    (hown : s.vm.findClass own = some m.cls) (hlink : (Cond.methodLink own index y).before args s = true) (hinst : (Cond.instanceMethod y).before args s = true) (hsel : (Cond.selects C y y).before args s = true)
    (hcode : (Cond.codeWith y bytes maxL ret hh).before args s = true) (hy : y.cls ≠ "java/lang/invoke/MethodHandle" ∧ y.cls ≠ "java/lang/invoke/VarHandle")
    {W9 : Nat} {Pre : Pt → Array Value → Prop} {Post : Pt → Array Value → Option Value → Pt → Prop} {PostX : Pt → Array Value → Addr → Pt → Prop} (hK : vx_Back l R p e below s args y 3 W9 Pre Post PostX)
    {b : Addr} {cellB : Cell} (hcell : T.heap[b]? = some cellB) (hobj : cellB.vm.isStatics = false) (hcls : s.vm.findClass C = some cellB.cls)
    {g : JFrame} (hg : g.method = m) (hsize : g.locals.size = c.maxLocals) {argsL rest : List Value} (hlen : ∀ sig, parseMethodDescriptor y.desc = some sig → argsL.length = sig.parameters.length)
    (hstack : g.stack = argsL.reverse ++ .ref b :: rest) (hW : 2 * g.monitorRoom + (rest.map fun v => v.category).sum ≤ W9) (hdg : decode c.code g.pc = .ok (.invokevirtual index, 3))
    (hpre : ∀ vm₁, s.WarmedH vm₁ → Pre ⟨T.setVm vm₁, locs, cells, slots⟩ (Value.ref b :: argsL).toArray) :
    (∃ (v : Option Value) (vm₁ : Vm) (B : Pt), s.WarmedH vm₁ ∧ Stand p l e R s m args below meth c B.U B.locs B.cells B.slots ∧ Post ⟨T.setVm vm₁, locs, cells, slots⟩ (Value.ref b :: argsL).toArray v B ∧
      ∀ target, Steps p.tables e below (B.U.setTop { g with pc := g.pc + 3, stack := v.toList ++ rest }) target → Steps p.tables e below (T.setTop g) target) ∨
    (∃ (q : Addr) (vm₁ : Vm) (B : Pt), s.WarmedH vm₁ ∧ Stand p l e R s m args below meth c B.U B.locs B.cells B.slots ∧ PostX ⟨T.setVm vm₁, locs, cells, slots⟩ (Value.ref b :: argsL).toArray q B ∧
      Steps p.tables e below (T.setTop g) ((B.U.setTop { g with stack := rest }).pushFrame (.throwing q))) := by
  obtain ⟨mk, methM, hnamed, hmethM, hstM, habM⟩ := Cond.instanceMethod_spec hinst
  obtain ⟨m8, methM', cM, hn8, hmethM', -, -, -, -, -, -, hsigM⟩ := Cond.codeWith_spec hcode
  cases Option.some.inj (hn8.symm.trans hnamed)
  cases hmethM.symm.trans hmethM'
  obtain ⟨c2, r2, m2, q1, q2, q3, q4, kP, hkP, hkPi⟩ := Cond.selects_spec hsel
  cases hcls.symm.trans q1
  cases (State.methodFound?_of_named hnamed hy).symm.trans q2
  cases hnamed.symm.trans q3
  have hselP : selectMethod e.platform s.vm cellB.cls mk = .method mk := by rw [Launch.admits_selectMethod X.admits]; exact q4
  obtain ⟨vm₁, X₁, hstep₁⟩ := X.invokevirtual hexec hown hlink hnamed hmethM hstM hkP hkPi hy (a := b) (cell := cellB) hcell
    (fun z h => by rw [h] at hobj; cases hobj) hselP hmethM habM hkP hkPi (g := g) hg (argsL := argsL) (rest := rest) (hlen _ hsigM) hstack hdg
  rcases hK m meth c ⟨T.setVm vm₁, locs, cells, slots⟩ { g with stack := rest } (.invokevirtual index) mk (Value.ref b :: argsL).toArray X₁ hg hsize hdg hW (X₁.named hnamed) (hpre vm₁ X₁.warmed) with ⟨v, B, X', hpost, hsteps⟩ | ⟨q, B, X', hpost, hsteps⟩
  · exact Or.inl ⟨v, vm₁, B, X₁.warmed, X', hpost, fun target h => hstep₁ _ fun acts => by rw [doInvoke_state]; exact hsteps.trans h⟩
  · exact Or.inr ⟨q, vm₁, B, X₁.warmed, X', hpost, hstep₁ _ fun acts => by rw [doInvoke_state]; exact hsteps⟩
theorem vx_callSX (X : Stand p l e R s m args below meth c T locs cells slots) (hexec : p.tables.exec = Jvm.exec) {own : String} {index : Nat} {y : MethodName} {bytes : ByteArray} {maxL : Nat} {ret : Option FieldType} {hh : List (Nat × Nat × Nat × Nat)}
    (hown : s.vm.findClass own = some m.cls) (hlink : (Cond.methodLink own index y).before args s = true) (hstat : (Cond.static y).before args s = true) (hinit : (Cond.initialized y.cls).before args s = true)
    (hcode : (Cond.codeWith y bytes maxL ret hh).before args s = true) (hy : y.cls ≠ "java/lang/invoke/MethodHandle" ∧ y.cls ≠ "java/lang/invoke/VarHandle")
    {W9 : Nat} {Pre : Pt → Array Value → Prop} {Post : Pt → Array Value → Option Value → Pt → Prop} {PostX : Pt → Array Value → Addr → Pt → Prop} (hK : vx_Back l R p e below s args y 3 W9 Pre Post PostX)
    {g : JFrame} (hg : g.method = m) (hsize : g.locals.size = c.maxLocals) {argsL rest : List Value} (hlen : ∀ sig, parseMethodDescriptor y.desc = some sig → argsL.length = sig.parameters.length)
    (hstack : g.stack = argsL.reverse ++ rest) (hW : 2 * g.monitorRoom + (rest.map fun v => v.category).sum ≤ W9) (hdg : decode c.code g.pc = .ok (.invokestatic index, 3))
    (hpre : ∀ vm₁, s.WarmedH vm₁ → Pre ⟨T.setVm vm₁, locs, cells, slots⟩ argsL.toArray) :
    (∃ (v : Option Value) (vm₁ : Vm) (B : Pt), s.WarmedH vm₁ ∧ Stand p l e R s m args below meth c B.U B.locs B.cells B.slots ∧ Post ⟨T.setVm vm₁, locs, cells, slots⟩ argsL.toArray v B ∧
      ∀ target, Steps p.tables e below (B.U.setTop { g with pc := g.pc + 3, stack := v.toList ++ rest }) target → Steps p.tables e below (T.setTop g) target) ∨
    (∃ (q : Addr) (vm₁ : Vm) (B : Pt), s.WarmedH vm₁ ∧ Stand p l e R s m args below meth c B.U B.locs B.cells B.slots ∧ PostX ⟨T.setVm vm₁, locs, cells, slots⟩ argsL.toArray q B ∧
      Steps p.tables e below (T.setTop g) ((B.U.setTop { g with stack := rest }).pushFrame (.throwing q))) := by
  obtain ⟨mk, methM, cM, hnamed, hmethM, -, -, -, -, -, -, hsigM⟩ := Cond.codeWith_spec hcode
  have hstatic : methM.isStatic = true := Cond.static_spec hnamed hmethM hstat
  obtain ⟨kP, hkP, -⟩ := className_of_methodNamed hnamed
  have hinitP : kP.init = .initialized := Cond.initialized_spec (findClass_of_methodNamed hnamed) hkP hinit
  obtain ⟨vm₁, X₁, hstep₁⟩ := X.invokestatic hexec hown hlink hnamed hmethM hstatic hkP hinitP hy (g := g) hg (argsL := argsL) (rest := rest) (hlen _ hsigM) hstack hdg
  rcases hK m meth c ⟨T.setVm vm₁, locs, cells, slots⟩ { g with stack := rest } (.invokestatic index) mk argsL.toArray X₁ hg hsize hdg hW (X₁.named hnamed) (hpre vm₁ X₁.warmed) with ⟨v, B, X', hpost, hsteps⟩ | ⟨q, B, X', hpost, hsteps⟩
  · exact Or.inl ⟨v, vm₁, B, X₁.warmed, X', hpost, fun target h => hstep₁ _ fun acts => by rw [doInvoke_state]; exact hsteps.trans h⟩
  · exact Or.inr ⟨q, vm₁, B, X₁.warmed, X', hpost, hstep₁ _ fun acts => by rw [doInvoke_state]; exact hsteps⟩
theorem vx_callVW (X : Stand p l e R s m args below meth c T locs cells slots) (hexec : p.tables.exec = Jvm.exec) {own C : String} {index : Nat} {y : MethodName} {bytes : ByteArray} {maxL : Nat} {ret : Option FieldType} {hh : List (Nat × Nat × Nat × Nat)}
    (hown : s.vm.findClass own = some m.cls) (hlink : (Cond.methodLink own index y).before args s = true) (hinst : (Cond.instanceMethod y).before args s = true) (hsel : (Cond.selects C y y).before args s = true)
    (hcode : (Cond.codeWith y bytes maxL ret hh).before args s = true) (hy : y.cls ≠ "java/lang/invoke/MethodHandle" ∧ y.cls ≠ "java/lang/invoke/VarHandle")
    {W9 : Nat} {Pre : Pt → Array Value → Prop} {Post : Pt → Array Value → Option Value → Pt → Prop} (hK : Back l R p e below s args y 3 W9 Pre Post)
    {b : Addr} {cellB : Cell} (hcell : T.heap[b]? = some cellB) (hobj : cellB.vm.isStatics = false) (hcls : s.vm.findClass C = some cellB.cls)
    {g : JFrame} (hg : g.method = m) (hsize : g.locals.size = c.maxLocals) {argsL rest : List Value} (hlen : ∀ sig, parseMethodDescriptor y.desc = some sig → argsL.length = sig.parameters.length)
    (hstack : g.stack = argsL.reverse ++ .ref b :: rest) (hW : 2 * g.monitorRoom + (rest.map fun v => v.category).sum ≤ W9) (hdg : decode c.code g.pc = .ok (.invokevirtual index, 3))
    (hpre : ∀ vm₁, s.WarmedH vm₁ → Pre ⟨T.setVm vm₁, locs, cells, slots⟩ (Value.ref b :: argsL).toArray) :
    ∃ (v : Option Value) (vm₁ : Vm) (B : Pt), s.WarmedH vm₁ ∧ Stand p l e R s m args below meth c B.U B.locs B.cells B.slots ∧ Post ⟨T.setVm vm₁, locs, cells, slots⟩ (Value.ref b :: argsL).toArray v B ∧
      ∀ target, Steps p.tables e below (B.U.setTop { g with pc := g.pc + 3, stack := v.toList ++ rest }) target → Steps p.tables e below (T.setTop g) target := by
  obtain ⟨mk, methM, hnamed, hmethM, hstM, habM⟩ := Cond.instanceMethod_spec hinst
  obtain ⟨m8, methM', cM, hn8, hmethM', -, -, -, -, -, -, hsigM⟩ := Cond.codeWith_spec hcode
  cases Option.some.inj (hn8.symm.trans hnamed)
  cases hmethM.symm.trans hmethM'
  obtain ⟨c2, r2, m2, q1, q2, q3, q4, kP, hkP, hkPi⟩ := Cond.selects_spec hsel
  cases hcls.symm.trans q1
  cases (State.methodFound?_of_named hnamed hy).symm.trans q2
  cases hnamed.symm.trans q3
  have hselP : selectMethod e.platform s.vm cellB.cls mk = .method mk := by rw [Launch.admits_selectMethod X.admits]; exact q4
  obtain ⟨vm₁, X₁, hstep₁⟩ := X.invokevirtual hexec hown hlink hnamed hmethM hstM hkP hkPi hy (a := b) (cell := cellB) hcell
    (fun z h => by rw [h] at hobj; cases hobj) hselP hmethM habM hkP hkPi (g := g) hg (argsL := argsL) (rest := rest) (hlen _ hsigM) hstack hdg
  obtain ⟨v, B, X', hpost, hsteps⟩ := hK m meth c ⟨T.setVm vm₁, locs, cells, slots⟩ { g with stack := rest } (.invokevirtual index) mk (Value.ref b :: argsL).toArray X₁ hg hsize hdg hW (X₁.named hnamed) (hpre vm₁ X₁.warmed)
  exact ⟨v, vm₁, B, X₁.warmed, X', hpost, fun target h => hstep₁ _ fun acts => by rw [doInvoke_state]; exact hsteps.trans h⟩
abbrev vx_CVW (R : Room) (s : State) (args : Array Value) (own C : String) (index : Nat) (y : MethodName) (bytes : ByteArray) (maxL : Nat) (ret : Option FieldType) (hh : List (Nat × Nat × Nat × Nat)) (ws : List Cond) (rm : Room) (mc ms n : Nat) : Prop :=
  (rm.cells = mc ∧ rm.slots = ms ∧ rm.frames + 1 ≤ R.frames ∧ 8 + (maxL + 11) + rm.locals ≤ R.locals ∧ (∀ w ∈ ws, ∀ (a' : Array Value) (U : State), s.WarmedH U.vm → w.before a' U = true) ∧ Cond.codeWith y bytes maxL ret hh ∈ ws) ∧
  (Cond.codeWith y bytes maxL ret hh).before args s = true ∧ (Cond.initialized y.cls).before args s = true ∧ (y.cls ≠ "java/lang/invoke/MethodHandle" ∧ y.cls ≠ "java/lang/invoke/VarHandle") ∧
  (∀ sig, parseMethodDescriptor y.desc = some sig → n = sig.parameters.length) ∧ (Cond.methodLink own index y).before args s = true ∧ (Cond.instanceMethod y).before args s = true ∧ (Cond.selects C y y).before args s = true
theorem vx_cwVW {own C : String} {index maxL mc ms : Nat} {y : MethodName} {bytes : ByteArray} {ret : Option FieldType} {hh : List (Nat × Nat × Nat × Nat)} {Ts ws ws' : List Cond} {rm : Room} (n : Nat) (ht : ∀ w ∈ Ts, w.before args s = true) (hT : GoodIn Ts (wsV own index C y ws)) (hw : ws = Cond.codeWith y bytes maxL ret hh :: ws') (hrc : rm.cells = mc) (hrs : rm.slots = ms)
    (hd : y.cls = C ∧ y.cls ≠ "java/lang/invoke/MethodHandle" ∧ y.cls ≠ "java/lang/invoke/VarHandle" ∧ (parseMethodDescriptor y.desc).map (fun d => d.parameters.length) = some n) (hR : rm.frames + 1 ≤ R.frames ∧ 8 + (maxL + 11) + rm.locals ≤ R.locals) :
    vx_CVW R s args own C index y bytes maxL ret hh ws rm mc ms n := by
  obtain ⟨hC, hd⟩ := hd
  subst hC
  have ok : ∀ w ∈ wsV own index y.cls y ws, w.before args s = true := fun w h => ht w (hT w h).1
  have hG : GoodIn Ts ws := fun w h => hT w (by unfold wsV; exact List.mem_append_right _ h)
  have hc : Cond.codeWith y bytes maxL ret hh ∈ ws := by rw [hw]; exact List.mem_cons_self
  refine ⟨⟨hrc, hrs, hR.1, hR.2, pay_in ht hG, hc⟩, ht _ (hG _ hc).1, ok _ (by simp [wsV]), ⟨hd.1, hd.2.1⟩, fun sig h => ?_, ok _ (by simp [wsV]), ok _ (by simp [wsV]), ok _ (by simp [wsV])⟩
  have h2 := hd.2.2
  rw [h] at h2
  exact (Option.some.inj h2).symm
theorem vx_runVW {y : MethodName} {bytes cc : ByteArray} {maxL nL mc ms n index : Nat} {ret : Option FieldType} {hh : List (Nat × Nat × Nat × Nat)} {ws : List Cond} {rm : Room} {Pc : Array Value → State → Prop} {Qc : Array Value → State → Outcome → State → Prop} {free : Addr → Prop} {Ts : List Cond} {own C : String} {b : Addr} {As rest : List Value} {g : JFrame}
    (S : CallFix p m c cc nL s args Ts own) (hM : Met l y ws rm Pc Qc mc ms free) (cw : vx_CVW R s args own C index y bytes maxL ret hh ws rm mc ms n) (hp : PreV s H C b Pc As)
    (hg : g.method = m) (hn : As.length = n) (hsize : g.locals.size = nL) (hstack : g.stack = As.reverse ++ .ref b :: rest) (hW : 2 * g.monitorRoom + (rest.map fun v => v.category).sum ≤ 8) (hdg : decode cc g.pc = .ok (.invokevirtual index, 3)) (hf : cells + mc ≤ R.cells ∧ slots + ms ≤ R.slots) :
    va_Run p l e R s m args below meth c H locs cells slots mc ms g rest (Qc (Value.ref b :: As).toArray) free := by
  obtain ⟨⟨hrc, hrs, hfr, hlo, hws, hcw⟩, hcode, hini, hy, hlen, hl, hin, hse⟩ := cw
  have hK : Back l R p e below s args y 3 8 (PreOf R mc ms Pc) (PostOf Qc mc ms free) := va_backW (hh := hh) (bytes := bytes) (maxL := maxL) (ret := ret) hM hp.1 hrc hrs hfr hlo hws hcw (fun a' U hW => word_at hW (Or.inl (by first | rfl | simp [Cond.onTables, Cond.keeps, Cond.steady])) hini)
  obtain ⟨hx, hb, hml, ho, -⟩ := S
  obtain ⟨-, ⟨cellB, hcB, hoB, hclB⟩, hPc⟩ := hp
  intro T hT X
  obtain ⟨v, vm₁, ⟨U', l2, c2, s2⟩, hW₁, X', ⟨g', mk, t, L, e1, e2, hq, h1, hL, h2, h3⟩, st⟩ := vx_callVW X hx (C := C) (hh := hh) (bytes := bytes) (maxL := maxL) (ret := ret) ho hl hin hse hcode hy hK (by rw [hT]; exact hcB) hoB hclB hg (hsize.trans hml.symm) (argsL := As) (rest := rest) (fun sig h => hn.trans (hlen sig h)) hstack hW (by rw [hb]; exact hdg)
    (fun vm₁ hW₁ => ⟨hf.1, hf.2, hPc (T.setVm vm₁) hT hW₁⟩)
  dsimp only [Pt.U, Pt.locs, Pt.cells, Pt.slots] at X' e1 e2 h1 h2 h3 st
  subst h1; subst h2; subst h3
  exact ⟨v, (T.setVm vm₁).calling g' mk (Value.ref b :: As).toArray, t, U', L, hT, X', hL, e1, e2, hq, st⟩
section
variable {y : MethodName} {bytes cc : ByteArray} {maxL nL mc ms n index : Nat} {ret : Option FieldType} {ws : List Cond} {rm : Room} {Pc : Array Value → State → Prop} {Qc : Array Value → State → Outcome → State → Prop} {XC : String → State → State → Prop} {free : Addr → Prop} {Ts : List Cond} {own C : String} {b : Addr} {As rest : List Value} {g : JFrame}
theorem vx_runVX {hh : List (Nat × Nat × Nat × Nat)} (S : CallFix p m c cc nL s args Ts own) (hM : vx_Met l y ws rm Pc Qc XC mc ms free) (cw : vx_CVW R s args own C index y bytes maxL ret hh ws rm mc ms n) (hp : PreV s H C b Pc As)
    (hg : g.method = m) (hn : As.length = n) (hsize : g.locals.size = nL) (hstack : g.stack = As.reverse ++ .ref b :: rest) (hW : 2 * g.monitorRoom + (rest.map fun v => v.category).sum ≤ 8) (hdg : decode cc g.pc = .ok (.invokevirtual index, 3)) (hf : cells + mc ≤ R.cells ∧ slots + ms ≤ R.slots) :
    vx_Run p l e R s m args below meth c H locs cells slots mc ms g rest (Qc (Value.ref b :: As).toArray) XC free := by
  obtain ⟨⟨hrc, hrs, hfr, hlo, hws, hcw⟩, hcode, hini, hy, hlen, hl, hin, hse⟩ := cw
  have hK : vx_Back l R p e below s args y 3 8 (PreOf R mc ms Pc) (PostOf Qc mc ms free) (vx_Post XC mc ms free) := vx_backW (hh := hh) (bytes := bytes) (maxL := maxL) (ret := ret) hM hp.1 hrc hrs hfr hlo hws hcw (fun a' U hW => word_at hW (Or.inl (by first | rfl | simp [Cond.onTables, Cond.keeps, Cond.steady])) hini)
  obtain ⟨hx, hb, hml, ho, -⟩ := S
  obtain ⟨-, ⟨cellB, hcB, hoB, hclB⟩, hPc⟩ := hp
  intro T hT X
  rcases vx_callVX X hx (C := C) (hh := hh) (bytes := bytes) (maxL := maxL) (ret := ret) ho hl hin hse hcode hy hK (by rw [hT]; exact hcB) hoB hclB hg (hsize.trans hml.symm) (argsL := As) (rest := rest) (fun sig h => hn.trans (hlen sig h)) hstack hW (by rw [hb]; exact hdg)
    (fun vm₁ hW₁ => ⟨hf.1, hf.2, hPc (T.setVm vm₁) hT hW₁⟩) with ⟨v, vm₁, ⟨U', l2, c2, s2⟩, hW₁, X', ⟨g', mk, t, L, e1, e2, hq, h1, hL, h2, h3⟩, st⟩ | ⟨q, vm₁, ⟨U', l2, c2, s2⟩, hW₁, X', ⟨g', mk, t, L, E, ce, e1, e2, hq, hce, hcv, hcl, h1, hL, h2, h3⟩, st⟩
  · dsimp only [Pt.U, Pt.locs, Pt.cells, Pt.slots] at X' e1 e2 h1 h2 h3 st
    subst h1; subst h2; subst h3
    exact Or.inl ⟨v, (T.setVm vm₁).calling g' mk (Value.ref b :: As).toArray, t, U', L, hT, X', hL, e1, e2, hq, st⟩
  · dsimp only [Pt.U, Pt.locs, Pt.cells, Pt.slots] at X' e1 e2 h1 h2 h3 st hcl
    subst h1; subst h2; subst h3
    exact Or.inr ⟨q, (T.setVm vm₁).calling g' mk (Value.ref b :: As).toArray, t, U', L, E, ce, hT, X', hL, e1, e2, hq, hce, hcv, vx_cls hW₁ hcl, st⟩
theorem vx_runSX {hh : List (Nat × Nat × Nat × Nat)} (S : CallFix p m c cc nL s args Ts own) (hM : vx_Met l y ws rm Pc Qc XC mc ms free) (cw : vx_CSW R s args own index y bytes maxL ret hh ws rm mc ms n) (hp : PreS s H Pc As)
    (hg : g.method = m) (hn : As.length = n) (hsize : g.locals.size = nL) (hstack : g.stack = As.reverse ++ rest) (hW : 2 * g.monitorRoom + (rest.map fun v => v.category).sum ≤ 8) (hdg : decode cc g.pc = .ok (.invokestatic index, 3)) (hf : cells + mc ≤ R.cells ∧ slots + ms ≤ R.slots) :
    vx_Run p l e R s m args below meth c H locs cells slots mc ms g rest (Qc As.toArray) XC free := by
  obtain ⟨⟨hrc, hrs, hfr, hlo, hws, hcw⟩, hcode, hini, hy, hlen, hl, hstt⟩ := cw
  have hK : vx_Back l R p e below s args y 3 8 (PreOf R mc ms Pc) (PostOf Qc mc ms free) (vx_Post XC mc ms free) := vx_backW (hh := hh) (bytes := bytes) (maxL := maxL) (ret := ret) hM hp.1 hrc hrs hfr hlo hws hcw (fun a' U hW => word_at hW (Or.inl (by first | rfl | simp [Cond.onTables, Cond.keeps, Cond.steady])) hini)
  obtain ⟨hx, hb, hml, ho, -⟩ := S
  intro T hT X
  rcases vx_callSX X hx (hh := hh) (bytes := bytes) (maxL := maxL) (ret := ret) ho hl hstt hini hcode hy hK hg (hsize.trans hml.symm) (argsL := As) (rest := rest) (fun sig h => hn.trans (hlen sig h)) hstack hW (by rw [hb]; exact hdg)
    (fun vm₁ hW₁ => ⟨hf.1, hf.2, hp.2 (T.setVm vm₁) hT hW₁⟩) with ⟨v, vm₁, ⟨U', l2, c2, s2⟩, hW₁, X', ⟨g', mk, t, L, e1, e2, hq, h1, hL, h2, h3⟩, st⟩ | ⟨q, vm₁, ⟨U', l2, c2, s2⟩, hW₁, X', ⟨g', mk, t, L, E, ce, e1, e2, hq, hce, hcv, hcl, h1, hL, h2, h3⟩, st⟩
  · dsimp only [Pt.U, Pt.locs, Pt.cells, Pt.slots] at X' e1 e2 h1 h2 h3 st
    subst h1; subst h2; subst h3
    exact Or.inl ⟨v, (T.setVm vm₁).calling g' mk As.toArray, t, U', L, hT, X', hL, e1, e2, hq, st⟩
  · dsimp only [Pt.U, Pt.locs, Pt.cells, Pt.slots] at X' e1 e2 h1 h2 h3 st hcl
    subst h1; subst h2; subst h3
    exact Or.inr ⟨q, (T.setVm vm₁).calling g' mk As.toArray, t, U', L, E, ce, hT, X', hL, e1, e2, hq, hce, hcv, vx_cls hW₁ hcl, st⟩
end
end VXH
theorem vx_ofWH {l : Launch} {y : MethodName} {ws ws' : List Cond} {rm : Room} {Pc : Array Value → State → Prop} {Qc : Array Value → State → Outcome → State → Prop} {XC : String → State → State → Prop} {mc ms : Nat} {free : Addr → Prop} {cc : ByteArray} {maxL : Nat} {ret : Option FieldType} {hh : List (Nat × Nat × Nat × Nat)}
    (hy : plainName y.cls = true) (hw : ws = Cond.codeWith y cc maxL ret hh :: ws')
    (body : ∀ p e s m args below meth c s₁, BodyLoose p l y (headSpec ws rm) cc maxL ret e s m args below meth c s₁ → c.maxLocals = maxL → Pc args s →
      W p l e (headSpec ws rm).room s m args below meth c s.heap [] 0 0 (vx_MQ below Qc XC args s mc ms free) (entryFrame m args maxL)) : vx_Met l y ws rm Pc Qc XC mc ms free := by
  refine MetFree.of_bodyS (code := cc) (maxLocals := maxL) (ret := ret) hy ?_ ?_
  · intro args s m h hn
    obtain ⟨m9, meth, c, hn9, h1, h2, h3, h4, -, h5, h6, -⟩ := Cond.codeWith_spec (atoms_spec (ws := ws) h _ (by rw [hw]; exact List.mem_cons_self))
    cases hn.symm.trans hn9
    exact ⟨meth, c, h1, h2, h3, h4, h5, h6⟩
  · intro p e s m args below meth c s₁ B hml hP _
    have hh0 : s₁.heap = s.heap := by rw [B.state]; rfl
    obtain ⟨t, a1, o, b1, b2, b3⟩ := body p e s m args below meth c s₁ B hml hP s₁ hh0 (Stand.of_body B)
    exact ⟨t, o, a1, b1, b2, b3⟩
/-! ===== END ===== -/
/-! ===== BEGIN what the machine throws by itself, no traces kept ===== -/
section VXM
set_option maxHeartbeats 1000000 in
/-- the machine throws cls with the message text, no traces kept: from its note over the frame g to 'throwing' over the same frame (follows the proofs of Stand.vmThrowsMessage, Shelf/KitTracedVmS.lean, and Stand.throwsMessageColdBareV, StandMessageColdV.lean, without the step out of the frame) -/
theorem vx_vmAt {p : Program} {l : Launch} {e : Env} {R : Room} {s : State} {m₀ : MethodId} {args : Array Value} {below : List Frame} {meth : Method} {c : Code} {W : State} {locs : List Loc} {cells slots : Nat}
    (X : Stand p l e R s m₀ args below meth c W locs cells slots) (hexec : p.tables.exec = Jvm.exec) (htr : e.platform.stackTraces = false) {cls : String} {names : List String} {text : String}
    (hcls : Bundle.fit cls = true) (hnames : ∀ n ∈ names, Bundle.fit n = true) (hsoe : (cls == "java/lang/StackOverflowError") = false) (hoom : (cls == "java/lang/OutOfMemoryError") = false)
    (h : ∀ a ∈ Bundle.messageArmAtoms cls names, a.before args s = true)
    (hlocs : ∀ x ∈ locs, ∀ cell, s.heap[x.base]? = some cell → cell.vm.isStatics = false)
    (htext : (text == notModelled) = false) (hlimit : ¬ (stringBytes (stringToUtf16 text)).size > e.platform.arrayLengthLimit) (hheap : ¬ (stringBytes (stringToUtf16 text)).size * componentBytes .byte > e.platform.maxHeapBytes)
    {g : JFrame} (hg : g.method = m₀) (hsize : g.locals.size = c.maxLocals)
    (hRframes : names.length + 4 < R.frames) (hRlocals : 2 * g.monitorRoom + (g.stack.map fun v => v.category).sum + 10240 ≤ R.locals) (hshort : 13 * names.length + 55 ≤ 10240)
    (hRcells : cells + 3 ≤ R.cells) (hRslots : slots + ((stringBytes (stringToUtf16 text)).size + 4 + 6) ≤ R.slots) (hlocks : meth.locks = false) :
    ∃ (S : State) (q : Addr) (ce : Cell), (∀ target, Steps p.tables e below ((S.setTop g).pushFrame (.throwing q)) target → Steps p.tables e below ((W.setTop g).pushFrame (.throwNew cls (some text) none)) target) ∧
      Stand p l e R s m₀ args below meth c S locs (cells + 3) (slots + ((stringBytes (stringToUtf16 text)).size + 4 + 6)) ∧ S.heap[q]? = some ce ∧ s.vm.findClass cls = some ce.cls ∧ ce.vm = .none := by
  have howns : e.platform.frameOwnsMonitors = true := by rw [X.admits.platform]
  have hfin : e.platform.finalization = false := by rw [X.admits.platform]
  have hpl : e.platform.magicAccessors = ({} : Platform).magicAccessors := by rw [X.admits.platform]
  have a : ∀ x, x ∈ Bundle.messageArmAtoms cls names → x.holds args s none s [] = true := fun x hx => h x hx
  obtain ⟨T, Z0, L, -, Y⟩ := ThrowableC.of_atoms (args := args) howns hfin hpl (fun x hx => h x (by simp [Bundle.messageArmAtoms, hx]))
  obtain ⟨Z, M, LZ, LM, hnZ⟩ := Init0T.ofS_atoms (args := args) hpl L Y (fun x hx => h x (by simp [Bundle.messageArmAtoms, hx]))
  obtain ⟨P1, Ps, hlen, L1, hL, hP1m, hlink1, hlink⟩ := Bundle.chainS (args := args) hpl hnZ names cls hcls hnames (fun x hx => h x (by simp [Bundle.messageArmAtoms, hx]))
  obtain ⟨Zs, LZs, hn4, hfitv, hfitc⟩ := StringT.of_atoms (args := args) (fun x hx => h x (by simp [Bundle.messageArmAtoms, hx]))
  have hfound : s.vm.findClass cls = some P1.m.cls := findClass_of_methodNamed hP1m
  obtain ⟨c1, kX, hc1, hk, hord, -, -, hn6⟩ := Cond.instantiable_spec (a (.instantiable cls 6) (by simp [Bundle.messageArmAtoms]))
  cases Option.some.inj (hc1.symm.trans hfound)
  have hinit := Cond.initialized_spec hfound hk (a (.initialized cls) (by simp [Bundle.messageArmAtoms]))
  have hctor : kX.findMethod "<init>" "(Ljava/lang/String;)V" = some P1.m.idx := findMethod_of_methodNamed hP1m hk
  have hsel0 : selectMethod e.platform s.vm P1.m.cls T.fill0 = .method T.fill0 := by
    obtain ⟨c2, r2, m2, q1, q2, q3, q4, -⟩ := Cond.selects_spec (a (.selects cls Bundle.tFill0 Bundle.tFill0) (by simp [Bundle.messageArmAtoms]))
    cases Option.some.inj (q1.symm.trans hfound)
    cases Option.some.inj (q2.symm.trans (State.methodFound?_of_named Y.fill0 (by decide)))
    cases Option.some.inj (q3.symm.trans Y.fill0)
    rw [Launch.admits_selectMethod X.admits]; exact q4
  have hselF : selectMethod e.platform s.vm P1.m.cls T.fill = .method T.fill := by
    obtain ⟨c2, r2, m2, q1, q2, q3, q4, -⟩ := Cond.selects_spec (a (.selects cls Bundle.tFill Bundle.tFill) (by simp [Bundle.messageArmAtoms]))
    cases Option.some.inj (q1.symm.trans hfound)
    cases Option.some.inj (q2.symm.trans (State.methodFound?_of_named Y.fill (by decide)))
    cases Option.some.inj (q3.symm.trans Y.fill)
    rw [Launch.admits_selectMethod X.admits]; exact q4
  obtain ⟨cellS0, hcS0, hiss⟩ := Y.statics
  obtain ⟨u0, hu0⟩ := Cond.staticRefV Y.unassigned L.unassignedStatic L.statics hcS0 hiss (a (.isRef (.static Bundle.tN "UNASSIGNED_STACK" Bundle.steD)) (by simp [Bundle.messageArmAtoms]))
  obtain ⟨sen, hsen⟩ := Cond.staticRefV Y.sentinel L.sentinelStatic L.statics hcS0 hiss (a (.isRef (.static Bundle.tN "SUPPRESSED_SENTINEL" Bundle.listD)) (by simp [Bundle.messageArmAtoms]))
  obtain ⟨ci198, i198, fB, hk198, hg198, ha198, hsB, -, hnB, htB, hffB⟩ := Cond.ownField (t := .object "java/lang/Object") Y.found L.cls (by decide +kernel) (a (.fieldLink Bundle.tN 198 Bundle.tN "backtrace" "Ljava/lang/Object;") (by simp [Bundle.messageArmAtoms])) (a (.lays Bundle.tN Bundle.tN "backtrace" "Ljava/lang/Object;") (by simp [Bundle.messageArmAtoms])) e.platform hpl
  obtain ⟨cellS, hcS', heS, -, hkeep⟩ := X.same.2.2.2.2.2 T.aS cellS0 hcS0
  have hcellS : W.heap[T.aS]? = some cellS := hcS'
  have hout' : ∀ i, (⟨T.aS, i⟩ : Loc) ∉ locs := fun i hmem => by
    have := hlocs _ hmem cellS0 hcS0
    rw [hiss] at this; cases this
  have hknownS : cellS.vm ≠ .unknown := by
    rw [heS]; intro hu
    rw [show cellS0.vm = .unknown from hu] at hiss
    cases hiss
  have hvU : cellS.slots[T.fUnassigned.slot]? = some u0.v := by rw [hkeep _ (hout' _)]; exact hu0
  have hvSen : cellS.slots[T.fSentinel.slot]? = some sen.v := by rw [hkeep _ (hout' _)]; exact hsen
  obtain ⟨iM, hffM⟩ := Y.msg
  obtain ⟨tyC, dC, hdC, hdnC⟩ := Cond.laysAt hfound hk Y.cause (a (.lays cls Bundle.tN "cause" "Ljava/lang/Throwable;") (by simp [Bundle.messageArmAtoms]))
  obtain ⟨tyS, dS, hdS, hdnS⟩ := Cond.laysAt hfound hk Y.stack (a (.lays cls Bundle.tN "stackTrace" Bundle.steD) (by simp [Bundle.messageArmAtoms]))
  obtain ⟨tyP, dP, hdP, hdnP⟩ := Cond.laysAt hfound hk Y.supp (a (.lays cls Bundle.tN "suppressedExceptions" Bundle.listD) (by simp [Bundle.messageArmAtoms]))
  obtain ⟨tyM, dM, hdM, hdnM⟩ := Cond.laysAt hfound hk hffM (a (.lays cls Bundle.tN "detailMessage" "Ljava/lang/String;") (by simp [Bundle.messageArmAtoms]))
  obtain ⟨tyB, dB, hdB, hdnB⟩ := Cond.laysAt hfound hk hffB (a (.lays cls Bundle.tN "backtrace" "Ljava/lang/Object;") (by simp [Bundle.messageArmAtoms]))
  have bC := Cond.laysApart hdB hdC hdnB hdnC (by rw [hnB, Y.causeName]; decide)
  have bS := Cond.laysApart hdB hdS hdnB hdnS (by rw [hnB, Y.stackName]; decide)
  have bP := Cond.laysApart hdB hdP hdnB hdnP (by rw [hnB, Y.suppName]; decide)
  have hbk : ((preparedCellV T.toThrowableT (freshCell P1.m.cls kX) (W.heap.size + 2) u0 sen).withEntry W.cur).slots[fB.slot]? = some .null := by
    have := fresh_default (c := P1.m.cls) tyB
    rw [htB] at this
    simpa [preparedCellV, Cell.setSlot, Cell.withEntry, Array.getElem?_setIfInBounds, bC, bS, bP, bC.symm, bS.symm, bP.symm, defaultValue] using this
  have tkC := Takes.of_laid (v := .ref (W.heap.size + 2)) hk hord tyC (by rw [Y.causeType]; rfl)
  have tkS := Takes.of_laid (v := u0.v) hk hord tyS (by rw [Y.stackType]; exact fits_refV_array _ u0)
  have tkP := Takes.of_laid (v := sen.v) hk hord tyP (by rw [Y.suppType]; exact fits_refV_object _ sen)
  have tkM := Takes.of_laid (v := .ref (W.heap.size + 1)) hk hord tyM (by rw [Y.msgType]; rfl)
  have hskip : SkipFacts T e.platform s (fun u => u) u0 ((preparedCellV T.toThrowableT (freshCell P1.m.cls kX) (W.heap.size + 2) u0 sen).withEntry W.cur) := ⟨{ ci198 := ci198, i198 := i198, fBack := fB }, ⟨hk198, hg198, ha198, hsB⟩, hbk, fun _ _ => rfl⟩
  have h0 : At W g.method c below := by rw [hg]; exact X.here
  obtain ⟨hbeyond, hfreeW⟩ := X.vmMayThrow hsize (.throwNew cls (some text) none) (fun f hf => by cases hf) rfl hRlocals
  have hfr' : W.frames.length + Ps.length + 4 < (e.platform.stackLimits W.me).1 := by have := X.framesAbove hRframes; omega
  have hwd' : (stackUse (.java g :: W.frames.tail)).2 + 13 * Ps.length + 55 ≤ (e.platform.stackLimits W.me).2 := by have := X.stackAbove hsize (K := 13 * Ps.length + 55) (by omega); omega
  have hslots : W.slotsUsed + (stringBytes (stringToUtf16 text)).size + Zs.kS.instanceTypes.size + kX.instanceTypes.size ≤ e.platform.maxSlots := by
    have := X.slotsAbove hRslots
    rw [hn4, hn6]
    omega
  obtain ⟨vm', hW', st⟩ := Steps.vmThrowsMessageColdByV p (s₀ := s) (S := W) (g := g) h0 hexec T L Z LZ M LM X.warmed (t := W.cur) rfl Zs LZs P1 L1 Ps hL hlink1 hlink hsoe hoom hfound hk hinit hord hctor
    (Launch.admits_hotImplicitExceptions X.admits) hbeyond hfreeW htext hlimit hheap (X.cellsAbove hRcells) hslots (hfitv _) (hfitc _)
    (Nn := fun u => u) heapOnly_id (fun _ _ => rfl) (fun _ => rfl) (fun u x y => setCell_twice _ _ _ _) (fun _ => Nat.le_refl _) (cN := ((preparedCellV T.toThrowableT (freshCell P1.m.cls kX) (W.heap.size + 2) u0 sen).withEntry W.cur))
    hsel0 hcellS hknownS hvU tkS (fun _ hu => hu) (fun _ hu => hu) rfl rfl rfl (by simp [preparedCellV, Cell.setSlot, Cell.withEntry]) hskip (fun _ _ hA hW _ hroom _ hrest => L.nativeOff p htr hA hW hroom hrest) hselF hvSen tkC tkP tkM Y.objLocals rfl hfr' hwd'
  rw [plainBareV_eq T.toThrowableT (W.heap.size + 2) u0 sen (.ref (W.heap.size + 1)) W.cur rfl rfl] at st
  obtain ⟨-, -, w3, w4, -, -, -⟩ := withThrown_facts e.platform W Zs text P1.m.cls kX
  have X3 := ((X.pushed (bytesOf Zs.cB (stringToUtf16 text))).pushed (stringAt Zs.cS Zs.kS Zs.fv Zs.fc (stringToUtf16 text) W.heap.size)).pushed (freshCell P1.m.cls kX)
  rw [← withString_eq] at X3
  have X4 := X3.noted hW'
  have ha : (W.heap.size + 2) < ((withThrown W Zs text P1.m.cls kX).setVm vm').heap.size := by show _ < (withThrown W Zs text P1.m.cls kX).heap.size; rw [w3]; omega
  have hcell : ((withThrown W Zs text P1.m.cls kX).setVm vm').heap[(W.heap.size + 2)]? = some (freshCell P1.m.cls kX) := w4
  have X5 := ((((X4.stored hcell T.fCause.slot (.ref (W.heap.size + 2))).storedAgain ha T.fStack.slot u0.v).storedAgain ha T.fSupp.slot sen.v).storedAgain ha T.fStack.slot u0.v).storedAgain ha T.fMsg.slot (.ref (W.heap.size + 1))
  obtain ⟨g₁, hfrM⟩ := X5.frames_eq
  have hU : ((((withThrown W Zs text P1.m.cls kX).setVm vm').setCell (W.heap.size + 2) (plainBareV T.toThrowableT (freshCell P1.m.cls kX) (W.heap.size + 2) u0 sen (.ref (W.heap.size + 1)))).setTop g).pushFrame (.throwing (W.heap.size + 2)) = (((withThrown W Zs text P1.m.cls kX).setVm vm').setCell (W.heap.size + 2) (plainBareV T.toThrowableT (freshCell P1.m.cls kX) (W.heap.size + 2) u0 sen (.ref (W.heap.size + 1)))).setFrames (.throwing (W.heap.size + 2) :: .java g :: below) := by
    rw [State.pushFrame, State.frames_setTop _ hfrM, State.setTop_of_frames _ hfrM, State.setFrames_setFrames]
  have b1 : (bytesOf Zs.cB (stringToUtf16 text)).slots.size = (stringBytes (stringToUtf16 text)).size := by
    rw [(Cell.writeAll_facts _ _).2.2]; simp [bytes0]
  have b2 : (stringAt Zs.cS Zs.kS Zs.fv Zs.fc (stringToUtf16 text) W.heap.size).slots.size = 4 := by simp [string0, Cell.setSlot, hn4]
  have b3 : (freshCell P1.m.cls kX).slots.size = 6 := by simp [hn6]
  rw [b1, b2, b3] at X5
  have e9 : slots + (stringBytes (stringToUtf16 text)).size + 4 + 6 = slots + ((stringBytes (stringToUtf16 text)).size + 4 + 6) := by omega
  rw [e9] at X5
  simp only [List.append_assoc, List.cons_append, List.nil_append] at X5
  refine ⟨((withThrown W Zs text P1.m.cls kX).setVm vm').setCell (W.heap.size + 2) (plainBareV T.toThrowableT (freshCell P1.m.cls kX) (W.heap.size + 2) u0 sen (.ref (W.heap.size + 1))), W.heap.size + 2, _, fun target ht => st _ (by rw [X.tail, ← hU]; exact ht),
    X5.forget (fun y hy => ?_), heapAt_setCell_self _ ha, hfound, rfl⟩
  simp only [List.mem_cons, List.not_mem_nil, or_false] at hy
  have hge : s.heap.size ≤ W.heap.size := X.same.2.1
  rcases hy with rfl | rfl | rfl | rfl | rfl <;> exact Nat.le_trans hge (Nat.le_add_right _ 2)
set_option maxHeartbeats 1000000 in
/-- the machine throws NullPointerException, no traces kept: from its note over the frame g to 'throwing' over the same frame (follows the proof of Stand.vmThrowsNpe, Shelf42/KT2.lean; throwsNpeColdBareVAt, Shelf42/NT91.lean, called) -/
theorem vx_npeAt {p : Program} {l : Launch} {e : Env} {R : Room} {s : State} {m₀ : MethodId} {args : Array Value} {below : List Frame} {meth : Method} {c : Code} {W : State} {locs : List Loc} {cells slots : Nat}
    (X : Stand p l e R s m₀ args below meth c W locs cells slots) (hexec : p.tables.exec = Jvm.exec) (htr : e.platform.stackTraces = false) {n : Nat}
    (h : ∀ a ∈ Bundle.npeArmAtoms n, a.before args s = true)
    (hlocs : ∀ x ∈ locs, ∀ cell, s.heap[x.base]? = some cell → cell.vm.isStatics = false)
    {g : JFrame} (hg : g.method = m₀) (hsize : g.locals.size = c.maxLocals)
    (hRframes : 7 < R.frames) (hRlocals : 2 * g.monitorRoom + (g.stack.map fun v => v.category).sum + 10240 ≤ R.locals)
    (hRcells : cells + 1 ≤ R.cells) (hRslots : slots + n ≤ R.slots) (hlocks : meth.locks = false) :
    ∃ (S : State) (q : Addr) (ce : Cell), (∀ target, Steps p.tables e below ((S.setTop g).pushFrame (.throwing q)) target → Steps p.tables e below ((W.setTop g).pushFrame (.throwNew "java/lang/NullPointerException" none none)) target) ∧
      Stand p l e R s m₀ args below meth c S locs (cells + 1) (slots + n) ∧ S.heap[q]? = some ce ∧ s.vm.findClass "java/lang/NullPointerException" = some ce.cls ∧ ce.vm = .none := by
  have howns : e.platform.frameOwnsMonitors = true := by rw [X.admits.platform]
  have hfin : e.platform.finalization = false := by rw [X.admits.platform]
  have hpl : e.platform.magicAccessors = ({} : Platform).magicAccessors := by rw [X.admits.platform]
  have hpl2 : e.platform.arrayCloneIsPublic = true := by rw [X.admits.platform]
  have a' : ∀ x, x ∈ Bundle.npeArmAtoms n → x.holds args s none s [] = true := fun x hx => h x hx
  obtain ⟨T, Z, L, LZ, Y⟩ := ThrowableC.of_atoms (args := args) howns hfin hpl (fun x hx => h x (by simp [Bundle.npeArmAtoms, hx]))
  obtain ⟨N, LN, hcN, hnNF, hordN, hffS⟩ := NpeC.of_atoms (args := args) hpl hpl2 L Y (fun x hx => h x (by simp [Bundle.npeArmAtoms, hx]))
  obtain ⟨P1, L1, hP1m, hP1s⟩ := PassC.of_atoms (args := args) (s := s) hpl (X := Bundle.nN) (Y := Bundle.rN) (by decide) (by decide) LibCode.NullPointerException.Init0.at_0 LibCode.NullPointerException.Init0.at_1 LibCode.NullPointerException.Init0.at_4 (fun x hx => h x (by simp [Bundle.npeArmAtoms, hx]))
  obtain ⟨PR, LR, hPRm, hPRs⟩ := PassC.of_atoms (args := args) (s := s) hpl (X := Bundle.rN) (Y := Bundle.eN) (by decide) (by decide) LibCode.RuntimeException.Init0.at_0 LibCode.RuntimeException.Init0.at_1 LibCode.RuntimeException.Init0.at_4 (fun x hx => h x (by simp [Bundle.npeArmAtoms, hx]))
  obtain ⟨PE, LEx, hPEm, hPEs⟩ := PassC.of_atoms (args := args) (s := s) hpl (X := Bundle.eN) (Y := Bundle.tN) (by decide) (by decide) LibCode.Exception.Init0.at_0 LibCode.Exception.Init0.at_1 LibCode.Exception.Init0.at_4 (fun x hx => h x (by simp [Bundle.npeArmAtoms, hx]))
  have hfound : s.vm.findClass Bundle.nN = some P1.m.cls := findClass_of_methodNamed hP1m
  have ecls : N.cN = P1.m.cls := Option.some.inj (hcN.symm.trans hfound)
  have hk : s.vm.classes[P1.m.cls]? = some N.kN := by rw [← ecls]; exact LN.cls
  have hinit := Cond.initialized_spec hfound hk (a' (.initialized Bundle.nN) (by simp [Bundle.npeArmAtoms]))
  have hctor : N.kN.findMethod "<init>" "()V" = some P1.m.idx := findMethod_of_methodNamed hP1m hk
  obtain ⟨c1, k1, hc1, hk1, -, -, -, hn⟩ := Cond.instantiable_spec (a' (.instantiable Bundle.nN n) (by simp [Bundle.npeArmAtoms]))
  cases Option.some.inj (hc1.symm.trans hfound)
  cases Option.some.inj (hk1.symm.trans hk)
  have hfsz : (freshCell P1.m.cls N.kN).slots.size = n := by simp [hn]
  have hlink1 : P1.sup = PR.m := Option.some.inj (hP1s.symm.trans hPRm)
  have hlinkR : PR.sup = PE.m := Option.some.inj (hPRs.symm.trans hPEm)
  have hlinkE : PE.sup = Z.m T.toThrowableT := Option.some.inj (hPEs.symm.trans Y.init0)
  have hLs : ∀ P, P ∈ [PR, PE] → P.Links0 e.platform s := fun P hP => by
    simp only [List.mem_cons, List.not_mem_nil, or_false] at hP
    rcases hP with rfl | rfl
    · exact LR
    · exact LEx
  have hsel0 : selectMethod e.platform s.vm P1.m.cls T.fill0 = .method T.fill0 := by
    obtain ⟨c2, r2, m2, q1, q2, q3, q4, -⟩ := Cond.selects_spec (a' (.selects Bundle.nN Bundle.tFill0 Bundle.tFill0) (by simp [Bundle.npeArmAtoms]))
    cases Option.some.inj (q1.symm.trans hfound)
    cases Option.some.inj (q2.symm.trans (State.methodFound?_of_named Y.fill0 (by decide)))
    cases Option.some.inj (q3.symm.trans Y.fill0)
    rw [Launch.admits_selectMethod X.admits]; exact q4
  have hselF : selectMethod e.platform s.vm P1.m.cls T.fill = .method N.fill := by
    obtain ⟨c2, r2, m2, q1, q2, q3, q4, -⟩ := Cond.selects_spec (a' (.selects Bundle.nN Bundle.tFill Bundle.nFill) (by simp [Bundle.npeArmAtoms]))
    cases Option.some.inj (q1.symm.trans hfound)
    cases Option.some.inj (q2.symm.trans (State.methodFound?_of_named Y.fill (by decide)))
    cases Option.some.inj (q3.symm.trans hnNF)
    rw [Launch.admits_selectMethod X.admits]; exact q4
  obtain ⟨cellS0, hcS0, hiss⟩ := Y.statics
  obtain ⟨u0, hu0⟩ := Cond.staticRefV Y.unassigned L.unassignedStatic L.statics hcS0 hiss (a' (.isRef (.static Bundle.tN "UNASSIGNED_STACK" Bundle.steD)) (by simp [Bundle.npeArmAtoms]))
  obtain ⟨sen, hsen⟩ := Cond.staticRefV Y.sentinel L.sentinelStatic L.statics hcS0 hiss (a' (.isRef (.static Bundle.tN "SUPPRESSED_SENTINEL" Bundle.listD)) (by simp [Bundle.npeArmAtoms]))
  obtain ⟨ci198, i198, fB, hk198, hg198, ha198, hsB, -, hnB, htB, hffB⟩ := Cond.ownField (t := .object "java/lang/Object") Y.found L.cls (by decide +kernel) (a' (.fieldLink Bundle.tN 198 Bundle.tN "backtrace" Bundle.objD) (by simp [Bundle.npeArmAtoms])) (a' (.lays Bundle.tN Bundle.tN "backtrace" Bundle.objD) (by simp [Bundle.npeArmAtoms])) e.platform hpl
  obtain ⟨cellS, hcS', heS, -, hkeep⟩ := X.same.2.2.2.2.2 T.aS cellS0 hcS0
  have hcellS : W.heap[T.aS]? = some cellS := hcS'
  have hout' : ∀ i, (⟨T.aS, i⟩ : Loc) ∉ locs := fun i hmem => by
    have := hlocs _ hmem cellS0 hcS0
    rw [hiss] at this; cases this
  have hknownS : cellS.vm ≠ .unknown := by
    rw [heS]; intro hu
    rw [show cellS0.vm = .unknown from hu] at hiss
    cases hiss
  have hvU : cellS.slots[T.fUnassigned.slot]? = some u0.v := by rw [hkeep _ (hout' _)]; exact hu0
  have hvSen : cellS.slots[T.fSentinel.slot]? = some sen.v := by rw [hkeep _ (hout' _)]; exact hsen
  obtain ⟨tyC, dC, hdC, hdnC⟩ := Cond.laysAt hfound hk Y.cause (a' (.lays Bundle.nN Bundle.tN "cause" "Ljava/lang/Throwable;") (by simp [Bundle.npeArmAtoms]))
  obtain ⟨tyS, dS, hdS, hdnS⟩ := Cond.laysAt hfound hk Y.stack (a' (.lays Bundle.nN Bundle.tN "stackTrace" Bundle.steD) (by simp [Bundle.npeArmAtoms]))
  obtain ⟨tyP, dP, hdP, hdnP⟩ := Cond.laysAt hfound hk Y.supp (a' (.lays Bundle.nN Bundle.tN "suppressedExceptions" Bundle.listD) (by simp [Bundle.npeArmAtoms]))
  obtain ⟨tyX, dX, hdX, hdnX⟩ := Cond.laysAt hfound hk hffS (a' (.lays Bundle.nN Bundle.nN "extendedMessageState" "I") (by simp [Bundle.npeArmAtoms, Bundle.npeAtoms]))
  obtain ⟨hnX, htX⟩ := State.fieldFound?_type hffS (t := .int) (by decide +kernel)
  have xC := Cond.laysApart hdC hdX hdnC hdnX (by rw [hnX, Y.causeName]; decide)
  have xS := Cond.laysApart hdS hdX hdnS hdnX (by rw [hnX, Y.stackName]; decide)
  have xP := Cond.laysApart hdP hdX hdnP hdnX (by rw [hnX, Y.suppName]; decide)
  have hv0 : (freshCell P1.m.cls N.kN).slots[N.fState.slot]? = some (.int 0) := by
    have := fresh_default (c := P1.m.cls) tyX
    rw [htX] at this; exact this
  obtain ⟨tyB, dB, hdB, hdnB⟩ := Cond.laysAt hfound hk hffB (a' (.lays Bundle.nN Bundle.tN "backtrace" Bundle.objD) (by simp [Bundle.npeArmAtoms]))
  have bC := Cond.laysApart hdB hdC hdnB hdnC (by rw [hnB, Y.causeName]; decide)
  have bS := Cond.laysApart hdB hdS hdnB hdnS (by rw [hnB, Y.stackName]; decide)
  have bP := Cond.laysApart hdB hdP hdnB hdnP (by rw [hnB, Y.suppName]; decide)
  have bX := Cond.laysApart hdB hdX hdnB hdnX (by rw [hnB, hnX]; decide)
  have hbk : ((npeCell N.toNpeT (preparedCellV T.toThrowableT (freshCell P1.m.cls N.kN) W.heap.size u0 sen) W.cur).withEntry W.cur).slots[fB.slot]? = some .null := by
    have := fresh_default (c := P1.m.cls) tyB
    rw [htB] at this
    simpa [npeCell, preparedCellV, Cell.setSlot, Cell.withEntry, Array.getElem?_setIfInBounds, bC, bS, bP, bX, bC.symm, bS.symm, bP.symm, bX.symm, defaultValue] using this
  have tkC := Takes.of_laid (v := .ref W.heap.size) hk hordN tyC (by rw [Y.causeType]; rfl)
  have tkS := Takes.of_laid (v := u0.v) hk hordN tyS (by rw [Y.stackType]; exact fits_refV_array _ u0)
  have tkP := Takes.of_laid (v := sen.v) hk hordN tyP (by rw [Y.suppType]; exact fits_refV_object _ sen)
  have tkX := Takes.of_laid (v := .int 1) hk hordN tyX (by rw [htX]; rfl)
  have hskip : SkipFacts T e.platform s (fun u => u) u0 ((npeCell N.toNpeT (preparedCellV T.toThrowableT (freshCell P1.m.cls N.kN) W.heap.size u0 sen) W.cur).withEntry W.cur) := ⟨{ ci198 := ci198, i198 := i198, fBack := fB }, ⟨hk198, hg198, ha198, hsB⟩, hbk, fun _ _ => rfl⟩
  obtain ⟨vm', X3, st, -⟩ := X.throwsNpeColdBareVAt hexec hg hsize T L Z LZ N LN P1 L1 [PR, PE] hLs hlink1 ⟨hlinkR, hlinkE, trivial⟩ hfound hk hinit hordN hctor hsel0 hselF hcellS hknownS hvU hvSen
    hv0 xC xS xP tkC tkS tkP tkX Y.objLocals hskip (fun _ _ hA hW _ hroom _ hrest => L.nativeOff p htr hA hW hroom hrest) (by simpa using hRframes) hRlocals (by simp) hRcells (by rw [hn]; exact hRslots)
  have hlt : W.heap.size < ((W.pushCell (freshCell P1.m.cls N.kN)).setVm vm').heap.size := by
    show W.heap.size < (W.pushCell (freshCell P1.m.cls N.kN)).heap.size
    rw [State.heap_size_pushCell]; omega
  rw [hfsz] at X3
  obtain ⟨g₁, hfrM⟩ := X3.frames_eq
  have hU : ((((W.pushCell (freshCell P1.m.cls N.kN)).setVm vm').setCell W.heap.size (npeBareV T.toThrowableT N.toNpeT (freshCell P1.m.cls N.kN) W.heap.size u0 sen)).setTop g).pushFrame (.throwing W.heap.size) = (((W.pushCell (freshCell P1.m.cls N.kN)).setVm vm').setCell W.heap.size (npeBareV T.toThrowableT N.toNpeT (freshCell P1.m.cls N.kN) W.heap.size u0 sen)).setFrames (.throwing W.heap.size :: .java g :: below) := by
    rw [State.pushFrame, State.frames_setTop _ hfrM, State.setTop_of_frames _ hfrM, State.setFrames_setFrames]
  refine ⟨_, W.heap.size, _, fun target ht => st.trans (by rw [← hU]; exact ht), X3.forget (fun y hy => ?_), heapAt_setCell_self _ hlt, hfound, rfl⟩
  simp only [List.mem_cons, List.not_mem_nil, or_false] at hy
  have hge : s.heap.size ≤ W.heap.size := X.same.2.1
  rcases hy with rfl | rfl | rfl | rfl | rfl <;> exact hge
/-- the words of a machine's NullPointerException, but the four that speak of the heap -/
def vx_atN (n : Nat) : List Cond := (Bundle.npeArmAtoms n).filter vx_no
/-- the words of a machine's throw with a message, but the four that speak of the heap -/
def vx_atM (X : String) (names : List String) : List Cond := (Bundle.messageArmAtoms X names).filter vx_no
section
variable {p : Program} {l : Launch} {e : Env} {R : Room} {s : State} {m : MethodId} {args : Array Value} {below : List Frame} {meth : Method} {c : Code} {H : Heap} {locs : List Loc} {cells slots : Nat}
/-- a frame seen from a rebased start, seen from the first start again -/
theorem vx_back9 {T S : State} {R' : Room} {k n : Nat} (X : Stand p l e R s m args below meth c T locs cells slots) (Y : Stand p l e R' ((T.setVm s.vm).setFrames (.invoking m args :: below)) m args below meth c T [] 0 0) (Z : Stand p l e R' ((T.setVm s.vm).setFrames (.invoking m args :: below)) m args below meth c S [] k n) :
    Stand p l e R s m args below meth c S locs (cells + k) (slots + n) := by
  have hW0 : s.WarmedH ((T.setVm s.vm).setFrames (.invoking m args :: below)).vm := State.WarmedH.refl s
  refine { admits := X.admits, cas := X.cas, clock := X.clock, frames := X.frames, room := X.room, hears := X.hears, method := X.method, code := X.code, here := Z.here, tail := Z.tail, warmed := State.WarmedH.trans hW0 Z.warmed, limits := Z.limits.trans (Y.limits.symm.trans X.limits), bytes := Z.bytes.trans (Y.bytes.symm.trans X.bytes), same := ?_ }
  obtain ⟨e1, e2⟩ := Z.same
  rw [State.setFrames_setFrames] at e1
  have h2 : (T.setVm s.vm).sameButNew (S.setVm s.vm) [] k n := ⟨e1, e2⟩
  have h3 := X.same.trans h2
  rw [List.append_nil] at h3
  exact h3
/-- from the machine's note that E is thrown here with this text -/
def vx_Note (p : Program) (l : Launch) (e : Env) (R : Room) (s : State) (m : MethodId) (args : Array Value) (below : List Frame) (meth : Method) (c : Code) (H : Heap) (locs : List Loc) (cells slots : Nat) (Q : State → Prop) (g : JFrame) (E text : String) : Prop :=
  ∀ T : State, T.heap = H → Stand p l e R s m args below meth c T locs cells slots → ∃ t, Steps p.tables e below ((T.setTop g).pushFrame (.throwNew E (some text) none)) t ∧ Q t
theorem vx_vm {pc : Nat} {ls : Array Slot} {rest : List Value} {Q : State → Prop} (hexec : p.tables.exec = Jvm.exec) (hl : l.stackTraces = false) {cls text : String} {names : List String} {nb : Nat} {A : Nat → Prop}
    (hcls : Bundle.fit cls = true) (hnames : ∀ n ∈ names, Bundle.fit n = true) (hsoe : (cls == "java/lang/StackOverflowError") = false) (hoom : (cls == "java/lang/OutOfMemoryError") = false)
    (hat : ∀ w ∈ vx_atM cls names, w.before args s = true) (hgood : ∀ w ∈ vx_atM cls names, vx_ot w = true)
    (hU : vx_Zq Bundle.tN "UNASSIGNED_STACK" Bundle.steD A s s.heap) (hN : vx_Zq Bundle.tN "SUPPRESSED_SENTINEL" Bundle.listD A s s.heap) (hS : va_S A s.heap H locs) (hsize : ls.size = c.maxLocals)
    (htext : (text == notModelled) = false) (hnb : (stringBytes (stringToUtf16 text)).size ≤ nb) (hnb1 : nb ≤ 1000)
    (hRframes : names.length + 4 < R.frames) (hRlocals : (rest.map fun v => v.category).sum + 10240 ≤ R.locals) (hshort : 13 * names.length + 55 ≤ 10240) (hRcells : cells + 3 ≤ R.cells) (hRslots : slots + (nb + 10) ≤ R.slots) (hlocks : meth.locks = false)
    (k : ∀ (H1 : Heap) (q9 : Addr) (ce : Cell), H.size ≤ H1.size → (∀ q : Nat, q < H.size → H1[q]? = H[q]?) → va_S A s.heap H1 locs → H1[q9]? = some ce → ce.vm = .none → s.vm.findClass cls = some ce.cls → vx_W p l e R s m args below meth c H1 locs (cells + 3) (slots + (nb + 10)) Q (F0 m pc ls rest) q9) :
    vx_Note p l e R s m args below meth c H locs cells slots Q (F0 m pc ls rest) cls text := by
  intro T hT X
  have htr : e.platform.stackTraces = false := (show e.platform.stackTraces = l.stackTraces by rw [X.admits.platform]).trans hl
  have Y := vx_rebase X (R' := { frames := R.frames, locals := R.locals, cells := 3, slots := nb + 10 }) (Nat.le_refl _) (Nat.le_refl _) hRcells hRslots
  have hhp : ((T.setVm s.vm).setFrames (.invoking m args :: below)).heap = H := hT
  have hW0 : s.WarmedH ((T.setVm s.vm).setFrames (.invoking m args :: below)).vm := State.WarmedH.refl s
  have hat' : ∀ w ∈ vx_atM cls names, w.before args ((T.setVm s.vm).setFrames (.invoking m args :: below)) = true := fun w hw => vx_ot_at hW0 rfl (hgood w hw) (hat w hw)
  have hU' : vx_Zq Bundle.tN "UNASSIGNED_STACK" Bundle.steD A ((T.setVm s.vm).setFrames (.invoking m args :: below)) ((T.setVm s.vm).setFrames (.invoking m args :: below)).heap := by rw [hhp]; exact vx_Zq.moved hW0.alike (hU.kept hS.2.1)
  have hN' : vx_Zq Bundle.tN "SUPPRESSED_SENTINEL" Bundle.listD A ((T.setVm s.vm).setFrames (.invoking m args :: below)) ((T.setVm s.vm).setFrames (.invoking m args :: below)).heap := by rw [hhp]; exact vx_Zq.moved hW0.alike (hN.kept hS.2.1)
  obtain ⟨S, q, ce, st, Z, hce, hcl', hv⟩ := vx_vmAt Y hexec htr (cls := cls) (names := names) (text := text) hcls hnames hsoe hoom (vx_own hat' (vx_isRefq hU'.1) (vx_isRefq hN'.1) hU'.2.word hN'.2.word) (fun x hx => nomatch hx) htext
    (by rw [Launch.admits_arrayLengthLimit X.admits]; omega) (by rw [Launch.admits_maxHeapBytes X.admits]; simp only [componentBytes]; omega)
    (g := F0 m pc ls rest) rfl hsize hRframes (by show 2 * 0 + (rest.map fun v => v.category).sum + 10240 ≤ R.locals; omega) hshort (by show 0 + 3 ≤ 3; omega) (by show 0 + (_ + 4 + 6) ≤ nb + 10; omega) hlocks
  obtain ⟨f1, f2⟩ := vx_frame Z.same
  have f1' : H.size ≤ S.heap.size := by rw [← hT]; exact f1
  have f2' : ∀ q : Nat, q < H.size → S.heap[q]? = H[q]? := fun q hq => by
    rw [← hT]
    exact f2 q (by rw [← hT] at hq; exact hq) (fun z hz => nomatch hz)
  have X5 := vx_back9 X Y Z
  have X6 : Stand p l e R s m args below meth c S locs (cells + 3) (slots + (nb + 10)) := { X5 with same := X5.same.mono (by omega) (by omega) }
  obtain ⟨t, a1, b1⟩ := k S.heap q ce f1' f2' ⟨Nat.le_trans hS.1 f1', fun q h1 h2 => (f2' q (Nat.lt_of_lt_of_le h1 hS.1)).trans (hS.2.1 q h1 h2), hS.2.2⟩ hce hv hcl' S rfl X6
  exact ⟨t, st t a1, b1⟩
/-- from the machine's note that NullPointerException is thrown here -/
def vx_NoteN (p : Program) (l : Launch) (e : Env) (R : Room) (s : State) (m : MethodId) (args : Array Value) (below : List Frame) (meth : Method) (c : Code) (H : Heap) (locs : List Loc) (cells slots : Nat) (Q : State → Prop) (g : JFrame) : Prop :=
  ∀ T : State, T.heap = H → Stand p l e R s m args below meth c T locs cells slots → ∃ t, Steps p.tables e below ((T.setTop g).pushFrame (.throwNew "java/lang/NullPointerException" none none)) t ∧ Q t
theorem vx_npe {pc : Nat} {ls : Array Slot} {rest : List Value} {Q : State → Prop} (hexec : p.tables.exec = Jvm.exec) (hl : l.stackTraces = false) {nb : Nat} {A : Nat → Prop}
    (hat : ∀ w ∈ vx_atN nb, w.before args s = true) (hgood : ∀ w ∈ vx_atN nb, vx_ot w = true)
    (hU : vx_Zq Bundle.tN "UNASSIGNED_STACK" Bundle.steD A s s.heap) (hN : vx_Zq Bundle.tN "SUPPRESSED_SENTINEL" Bundle.listD A s s.heap) (hS : va_S A s.heap H locs) (hsize : ls.size = c.maxLocals)
    (hRframes : 7 < R.frames) (hRlocals : (rest.map fun v => v.category).sum + 10240 ≤ R.locals) (hRcells : cells + 1 ≤ R.cells) (hRslots : slots + nb ≤ R.slots) (hlocks : meth.locks = false)
    (k : ∀ (H1 : Heap) (q9 : Addr) (ce : Cell), H.size ≤ H1.size → (∀ q : Nat, q < H.size → H1[q]? = H[q]?) → va_S A s.heap H1 locs → H1[q9]? = some ce → ce.vm = .none → s.vm.findClass "java/lang/NullPointerException" = some ce.cls → vx_W p l e R s m args below meth c H1 locs (cells + 1) (slots + nb) Q (F0 m pc ls rest) q9) :
    vx_NoteN p l e R s m args below meth c H locs cells slots Q (F0 m pc ls rest) := by
  intro T hT X
  have htr : e.platform.stackTraces = false := (show e.platform.stackTraces = l.stackTraces by rw [X.admits.platform]).trans hl
  have Y := vx_rebase X (R' := { frames := R.frames, locals := R.locals, cells := 1, slots := nb }) (Nat.le_refl _) (Nat.le_refl _) hRcells hRslots
  have hhp : ((T.setVm s.vm).setFrames (.invoking m args :: below)).heap = H := hT
  have hW0 : s.WarmedH ((T.setVm s.vm).setFrames (.invoking m args :: below)).vm := State.WarmedH.refl s
  have hat' : ∀ w ∈ vx_atN nb, w.before args ((T.setVm s.vm).setFrames (.invoking m args :: below)) = true := fun w hw => vx_ot_at hW0 rfl (hgood w hw) (hat w hw)
  have hU' : vx_Zq Bundle.tN "UNASSIGNED_STACK" Bundle.steD A ((T.setVm s.vm).setFrames (.invoking m args :: below)) ((T.setVm s.vm).setFrames (.invoking m args :: below)).heap := by rw [hhp]; exact vx_Zq.moved hW0.alike (hU.kept hS.2.1)
  have hN' : vx_Zq Bundle.tN "SUPPRESSED_SENTINEL" Bundle.listD A ((T.setVm s.vm).setFrames (.invoking m args :: below)) ((T.setVm s.vm).setFrames (.invoking m args :: below)).heap := by rw [hhp]; exact vx_Zq.moved hW0.alike (hN.kept hS.2.1)
  obtain ⟨S, q, ce, st, Z, hce, hcl', hv⟩ := vx_npeAt Y hexec htr (n := nb) (vx_own hat' (vx_isRefq hU'.1) (vx_isRefq hN'.1) hU'.2.word hN'.2.word) (fun x hx => nomatch hx)
    (g := F0 m pc ls rest) rfl hsize hRframes (by show 2 * 0 + (rest.map fun v => v.category).sum + 10240 ≤ R.locals; omega) (by show 0 + 1 ≤ 1; omega) (by show 0 + nb ≤ nb; omega) hlocks
  obtain ⟨f1, f2⟩ := vx_frame Z.same
  have f1' : H.size ≤ S.heap.size := by rw [← hT]; exact f1
  have f2' : ∀ q : Nat, q < H.size → S.heap[q]? = H[q]? := fun q hq => by
    rw [← hT]
    exact f2 q (by rw [← hT] at hq; exact hq) (fun z hz => nomatch hz)
  have X5 := vx_back9 X Y Z
  have X6 : Stand p l e R s m args below meth c S locs (cells + 1) (slots + nb) := { X5 with same := X5.same.mono (by omega) (by omega) }
  obtain ⟨t, a1, b1⟩ := k S.heap q ce f1' f2' ⟨Nat.le_trans hS.1 f1', fun q h1 h2 => (f2' q (Nat.lt_of_lt_of_le h1 hS.1)).trans (hS.2.1 q h1 h2), hS.2.2⟩ hce hv hcl' S rfl X6
  exact ⟨t, st t a1, b1⟩
variable {Q : State → Prop} {cc : ByteArray} {pc : Nat} {ls : Array Slot} {rest : List Value}
theorem vx_idivZ (hexec : p.tables.exec = Jvm.exec) (hb : c.code = cc) {a b : Int32} (h0 : b = 0) (d : decode cc pc = .ok (.idiv, 1)) (k : vx_Note p l e R s m args below meth c H locs cells slots Q (F0 m pc ls rest) "java/lang/ArithmeticException" "/ by zero") :
    W p l e R s m args below meth c H locs cells slots Q (F0 m pc ls (.int b :: .int a :: rest)) := by
  intro T hT X
  obtain ⟨t, st, q⟩ := k T hT X
  exact ⟨t, X.idivZero hexec (g := F0 m pc ls (.int b :: .int a :: rest)) rfl (a := a) (rest := rest) (by rw [h0]) (by rw [hb]; exact d) t st, q⟩
theorem vx_iremZ (hexec : p.tables.exec = Jvm.exec) (hb : c.code = cc) {a b : Int32} (h0 : b = 0) (d : decode cc pc = .ok (.irem, 1)) (k : vx_Note p l e R s m args below meth c H locs cells slots Q (F0 m pc ls rest) "java/lang/ArithmeticException" "/ by zero") :
    W p l e R s m args below meth c H locs cells slots Q (F0 m pc ls (.int b :: .int a :: rest)) := by
  intro T hT X
  obtain ⟨t, st, q⟩ := k T hT X
  exact ⟨t, X.iremZero hexec (g := F0 m pc ls (.int b :: .int a :: rest)) rfl (a := a) (rest := rest) (by rw [h0]) (by rw [hb]; exact d) t st, q⟩
theorem vx_ldivZ (hexec : p.tables.exec = Jvm.exec) (hb : c.code = cc) {a b : Int64} (h0 : b = 0) (d : decode cc pc = .ok (.ldiv, 1)) (k : vx_Note p l e R s m args below meth c H locs cells slots Q (F0 m pc ls rest) "java/lang/ArithmeticException" "/ by zero") :
    W p l e R s m args below meth c H locs cells slots Q (F0 m pc ls (.long b :: .long a :: rest)) := by
  intro T hT X
  obtain ⟨t, st, q⟩ := k T hT X
  exact ⟨t, X.ldivZero hexec (g := F0 m pc ls (.long b :: .long a :: rest)) rfl (a := a) (rest := rest) (by rw [h0]) (by rw [hb]; exact d) t st, q⟩
theorem vx_lremZ (hexec : p.tables.exec = Jvm.exec) (hb : c.code = cc) {a b : Int64} (h0 : b = 0) (d : decode cc pc = .ok (.lrem, 1)) (k : vx_Note p l e R s m args below meth c H locs cells slots Q (F0 m pc ls rest) "java/lang/ArithmeticException" "/ by zero") :
    W p l e R s m args below meth c H locs cells slots Q (F0 m pc ls (.long b :: .long a :: rest)) := by
  intro T hT X
  obtain ⟨t, st, q⟩ := k T hT X
  exact ⟨t, X.lremZero hexec (g := F0 m pc ls (.long b :: .long a :: rest)) rfl (a := a) (rest := rest) (by rw [h0]) (by rw [hb]; exact d) t st, q⟩
theorem vx_ialdZ {D : va_G} {cl : List vw_C} {ws : va_W} {tys : List (ClassId × FieldType)} {a : Nat} (hexec : p.tables.exec = Jvm.exec) (hb : c.code = cc) (hK : va_K D cl tys s) (hP : va_P D cl ws H) (q0 t0 : Nat) {cA : ClassId} {n : Nat} {f : Nat → Int32} (ha : ws[q0]? = some (a, .inl (cA, n, .inl f))) (ht : tys[t0]? = some (cA, .int)) {i : Int32} (hout : ¬ vp_in i n) (hdg : decode cc pc = .ok (.iaload, 1))
    (k : ∀ tx : String, tx = (toString "Index " ++ toString i ++ toString " out of bounds for length " ++ toString n : String) → vx_Note p l e R s m args below meth c H locs cells slots Q (F0 m pc ls rest) "java/lang/ArrayIndexOutOfBoundsException" tx) : W p l e R s m args below meth c H locs cells slots Q (F0 m pc ls (.int i :: .ref a :: rest)) := by
  intro T hT X
  obtain ⟨t, st, q⟩ := k _ rfl T hT X
  refine ⟨t, ?_, q⟩
  have h1 := X.ialoadOut hexec (by rw [hT]; exact hP q0 _ ha) ((hK.2 t0 _ ht).1 n (fun j => .int (f j))) (j := i) (by show (i < 0 ∨ (arrV _ _ _).slots.size ≤ _); rw [arrV_size]; exact Classical.byContradiction hout) (g := F0 m pc ls (.int i :: .ref a :: rest)) rfl (rest := rest) rfl (by rw [hb]; exact hdg) t
  simp only [arrV_size] at h1
  exact h1 st
theorem vx_iastZ {D : va_G} {cl : List vw_C} {ws : va_W} {tys : List (ClassId × FieldType)} {a : Nat} (hexec : p.tables.exec = Jvm.exec) (hb : c.code = cc) (hK : va_K D cl tys s) (hP : va_P D cl ws H) (q0 t0 : Nat) {cA : ClassId} {n : Nat} {f : Nat → Int32} (ha : ws[q0]? = some (a, .inl (cA, n, .inl f))) (ht : tys[t0]? = some (cA, .int)) {i : Int32} {x : Int32} (hout : ¬ vp_in i n) (hdg : decode cc pc = .ok (.iastore, 1))
    (k : ∀ tx : String, tx = (toString "Index " ++ toString i ++ toString " out of bounds for length " ++ toString n : String) → vx_Note p l e R s m args below meth c H locs cells slots Q (F0 m pc ls rest) "java/lang/ArrayIndexOutOfBoundsException" tx) : W p l e R s m args below meth c H locs cells slots Q (F0 m pc ls (.int x :: .int i :: .ref a :: rest)) := by
  intro T hT X
  obtain ⟨t, st, q⟩ := k _ rfl T hT X
  refine ⟨t, ?_, q⟩
  have h1 := X.iastoreOut hexec (by rw [hT]; exact hP q0 _ ha) ((hK.2 t0 _ ht).1 n (fun j => .int (f j))) (j := i) (by show (i < 0 ∨ (arrV _ _ _).slots.size ≤ _); rw [arrV_size]; exact Classical.byContradiction hout) (g := F0 m pc ls (.int x :: .int i :: .ref a :: rest)) rfl (rest := rest) rfl (by rw [hb]; exact hdg) t
  simp only [arrV_size] at h1
  exact h1 st
theorem vx_baldZ {D : va_G} {cl : List vw_C} {ws : va_W} {tys : List (ClassId × FieldType)} {a : Nat} (hexec : p.tables.exec = Jvm.exec) (hb : c.code = cc) (hK : va_K D cl tys s) (hP : va_P D cl ws H) (q0 t0 : Nat) {cA : ClassId} {n : Nat} {f : Nat → Int32} (ha : ws[q0]? = some (a, .inl (cA, n, .inl f))) (ht : tys[t0]? = some (cA, .byte)) {i : Int32} (hout : ¬ vp_in i n) (hdg : decode cc pc = .ok (.baload, 1))
    (k : ∀ tx : String, tx = (toString "Index " ++ toString i ++ toString " out of bounds for length " ++ toString n : String) → vx_Note p l e R s m args below meth c H locs cells slots Q (F0 m pc ls rest) "java/lang/ArrayIndexOutOfBoundsException" tx) : W p l e R s m args below meth c H locs cells slots Q (F0 m pc ls (.int i :: .ref a :: rest)) := by
  intro T hT X
  obtain ⟨t, st, q⟩ := k _ rfl T hT X
  refine ⟨t, ?_, q⟩
  have h1 := X.baloadOut hexec (by rw [hT]; exact hP q0 _ ha) ((hK.2 t0 _ ht).1 n (fun j => .int (f j))) (j := i) (by show (i < 0 ∨ (arrV _ _ _).slots.size ≤ _); rw [arrV_size]; exact Classical.byContradiction hout) (g := F0 m pc ls (.int i :: .ref a :: rest)) rfl (rest := rest) rfl (by rw [hb]; exact hdg) t
  simp only [arrV_size] at h1
  exact h1 st
theorem vx_bastZ {D : va_G} {cl : List vw_C} {ws : va_W} {tys : List (ClassId × FieldType)} {a : Nat} (hexec : p.tables.exec = Jvm.exec) (hb : c.code = cc) (hK : va_K D cl tys s) (hP : va_P D cl ws H) (q0 t0 : Nat) {cA : ClassId} {n : Nat} {f : Nat → Int32} (ha : ws[q0]? = some (a, .inl (cA, n, .inl f))) (ht : tys[t0]? = some (cA, .byte)) {i : Int32} {x : Int32} (hout : ¬ vp_in i n) (hdg : decode cc pc = .ok (.bastore, 1))
    (k : ∀ tx : String, tx = (toString "Index " ++ toString i ++ toString " out of bounds for length " ++ toString n : String) → vx_Note p l e R s m args below meth c H locs cells slots Q (F0 m pc ls rest) "java/lang/ArrayIndexOutOfBoundsException" tx) : W p l e R s m args below meth c H locs cells slots Q (F0 m pc ls (.int x :: .int i :: .ref a :: rest)) := by
  intro T hT X
  obtain ⟨t, st, q⟩ := k _ rfl T hT X
  refine ⟨t, ?_, q⟩
  have h1 := X.bastoreOut hexec (by rw [hT]; exact hP q0 _ ha) ((hK.2 t0 _ ht).1 n (fun j => .int (f j))) (j := i) (by show (i < 0 ∨ (arrV _ _ _).slots.size ≤ _); rw [arrV_size]; exact Classical.byContradiction hout) (g := F0 m pc ls (.int x :: .int i :: .ref a :: rest)) rfl (rest := rest) rfl (by rw [hb]; exact hdg) t
  simp only [arrV_size] at h1
  exact h1 st
theorem vx_zaldZ {D : va_G} {cl : List vw_C} {ws : va_W} {tys : List (ClassId × FieldType)} {a : Nat} (hexec : p.tables.exec = Jvm.exec) (hb : c.code = cc) (hK : va_K D cl tys s) (hP : va_P D cl ws H) (q0 t0 : Nat) {cA : ClassId} {n : Nat} {f : Nat → Int32} (ha : ws[q0]? = some (a, .inl (cA, n, .inl f))) (ht : tys[t0]? = some (cA, .boolean)) {i : Int32} (hout : ¬ vp_in i n) (hdg : decode cc pc = .ok (.baload, 1))
    (k : ∀ tx : String, tx = (toString "Index " ++ toString i ++ toString " out of bounds for length " ++ toString n : String) → vx_Note p l e R s m args below meth c H locs cells slots Q (F0 m pc ls rest) "java/lang/ArrayIndexOutOfBoundsException" tx) : W p l e R s m args below meth c H locs cells slots Q (F0 m pc ls (.int i :: .ref a :: rest)) := by
  intro T hT X
  obtain ⟨t, st, q⟩ := k _ rfl T hT X
  refine ⟨t, ?_, q⟩
  have h1 := X.baloadOut hexec (by rw [hT]; exact hP q0 _ ha) ((hK.2 t0 _ ht).1 n (fun j => .int (f j))) (j := i) (by show (i < 0 ∨ (arrV _ _ _).slots.size ≤ _); rw [arrV_size]; exact Classical.byContradiction hout) (g := F0 m pc ls (.int i :: .ref a :: rest)) rfl (rest := rest) rfl (by rw [hb]; exact hdg) t
  simp only [arrV_size] at h1
  exact h1 st
theorem vx_zastZ {D : va_G} {cl : List vw_C} {ws : va_W} {tys : List (ClassId × FieldType)} {a : Nat} (hexec : p.tables.exec = Jvm.exec) (hb : c.code = cc) (hK : va_K D cl tys s) (hP : va_P D cl ws H) (q0 t0 : Nat) {cA : ClassId} {n : Nat} {f : Nat → Int32} (ha : ws[q0]? = some (a, .inl (cA, n, .inl f))) (ht : tys[t0]? = some (cA, .boolean)) {i : Int32} {x : Int32} (hout : ¬ vp_in i n) (hdg : decode cc pc = .ok (.bastore, 1))
    (k : ∀ tx : String, tx = (toString "Index " ++ toString i ++ toString " out of bounds for length " ++ toString n : String) → vx_Note p l e R s m args below meth c H locs cells slots Q (F0 m pc ls rest) "java/lang/ArrayIndexOutOfBoundsException" tx) : W p l e R s m args below meth c H locs cells slots Q (F0 m pc ls (.int x :: .int i :: .ref a :: rest)) := by
  intro T hT X
  obtain ⟨t, st, q⟩ := k _ rfl T hT X
  refine ⟨t, ?_, q⟩
  have h1 := X.bastoreOut hexec (by rw [hT]; exact hP q0 _ ha) ((hK.2 t0 _ ht).1 n (fun j => .int (f j))) (j := i) (by show (i < 0 ∨ (arrV _ _ _).slots.size ≤ _); rw [arrV_size]; exact Classical.byContradiction hout) (g := F0 m pc ls (.int x :: .int i :: .ref a :: rest)) rfl (rest := rest) rfl (by rw [hb]; exact hdg) t
  simp only [arrV_size] at h1
  exact h1 st
theorem vx_caldZ {D : va_G} {cl : List vw_C} {ws : va_W} {tys : List (ClassId × FieldType)} {a : Nat} (hexec : p.tables.exec = Jvm.exec) (hb : c.code = cc) (hK : va_K D cl tys s) (hP : va_P D cl ws H) (q0 t0 : Nat) {cA : ClassId} {n : Nat} {f : Nat → Int32} (ha : ws[q0]? = some (a, .inl (cA, n, .inl f))) (ht : tys[t0]? = some (cA, .char)) {i : Int32} (hout : ¬ vp_in i n) (hdg : decode cc pc = .ok (.caload, 1))
    (k : ∀ tx : String, tx = (toString "Index " ++ toString i ++ toString " out of bounds for length " ++ toString n : String) → vx_Note p l e R s m args below meth c H locs cells slots Q (F0 m pc ls rest) "java/lang/ArrayIndexOutOfBoundsException" tx) : W p l e R s m args below meth c H locs cells slots Q (F0 m pc ls (.int i :: .ref a :: rest)) := by
  intro T hT X
  obtain ⟨t, st, q⟩ := k _ rfl T hT X
  refine ⟨t, ?_, q⟩
  have h1 := X.caloadOut hexec (by rw [hT]; exact hP q0 _ ha) ((hK.2 t0 _ ht).1 n (fun j => .int (f j))) (j := i) (by show (i < 0 ∨ (arrV _ _ _).slots.size ≤ _); rw [arrV_size]; exact Classical.byContradiction hout) (g := F0 m pc ls (.int i :: .ref a :: rest)) rfl (rest := rest) rfl (by rw [hb]; exact hdg) t
  simp only [arrV_size] at h1
  exact h1 st
theorem vx_castZ {D : va_G} {cl : List vw_C} {ws : va_W} {tys : List (ClassId × FieldType)} {a : Nat} (hexec : p.tables.exec = Jvm.exec) (hb : c.code = cc) (hK : va_K D cl tys s) (hP : va_P D cl ws H) (q0 t0 : Nat) {cA : ClassId} {n : Nat} {f : Nat → Int32} (ha : ws[q0]? = some (a, .inl (cA, n, .inl f))) (ht : tys[t0]? = some (cA, .char)) {i : Int32} {x : Int32} (hout : ¬ vp_in i n) (hdg : decode cc pc = .ok (.castore, 1))
    (k : ∀ tx : String, tx = (toString "Index " ++ toString i ++ toString " out of bounds for length " ++ toString n : String) → vx_Note p l e R s m args below meth c H locs cells slots Q (F0 m pc ls rest) "java/lang/ArrayIndexOutOfBoundsException" tx) : W p l e R s m args below meth c H locs cells slots Q (F0 m pc ls (.int x :: .int i :: .ref a :: rest)) := by
  intro T hT X
  obtain ⟨t, st, q⟩ := k _ rfl T hT X
  refine ⟨t, ?_, q⟩
  have h1 := X.castoreOut hexec (by rw [hT]; exact hP q0 _ ha) ((hK.2 t0 _ ht).1 n (fun j => .int (f j))) (j := i) (by show (i < 0 ∨ (arrV _ _ _).slots.size ≤ _); rw [arrV_size]; exact Classical.byContradiction hout) (g := F0 m pc ls (.int x :: .int i :: .ref a :: rest)) rfl (rest := rest) rfl (by rw [hb]; exact hdg) t
  simp only [arrV_size] at h1
  exact h1 st
theorem vx_saldZ {D : va_G} {cl : List vw_C} {ws : va_W} {tys : List (ClassId × FieldType)} {a : Nat} (hexec : p.tables.exec = Jvm.exec) (hb : c.code = cc) (hK : va_K D cl tys s) (hP : va_P D cl ws H) (q0 t0 : Nat) {cA : ClassId} {n : Nat} {f : Nat → Int32} (ha : ws[q0]? = some (a, .inl (cA, n, .inl f))) (ht : tys[t0]? = some (cA, .short)) {i : Int32} (hout : ¬ vp_in i n) (hdg : decode cc pc = .ok (.saload, 1))
    (k : ∀ tx : String, tx = (toString "Index " ++ toString i ++ toString " out of bounds for length " ++ toString n : String) → vx_Note p l e R s m args below meth c H locs cells slots Q (F0 m pc ls rest) "java/lang/ArrayIndexOutOfBoundsException" tx) : W p l e R s m args below meth c H locs cells slots Q (F0 m pc ls (.int i :: .ref a :: rest)) := by
  intro T hT X
  obtain ⟨t, st, q⟩ := k _ rfl T hT X
  refine ⟨t, ?_, q⟩
  have h1 := X.saloadOut hexec (by rw [hT]; exact hP q0 _ ha) ((hK.2 t0 _ ht).1 n (fun j => .int (f j))) (j := i) (by show (i < 0 ∨ (arrV _ _ _).slots.size ≤ _); rw [arrV_size]; exact Classical.byContradiction hout) (g := F0 m pc ls (.int i :: .ref a :: rest)) rfl (rest := rest) rfl (by rw [hb]; exact hdg) t
  simp only [arrV_size] at h1
  exact h1 st
theorem vx_sastZ {D : va_G} {cl : List vw_C} {ws : va_W} {tys : List (ClassId × FieldType)} {a : Nat} (hexec : p.tables.exec = Jvm.exec) (hb : c.code = cc) (hK : va_K D cl tys s) (hP : va_P D cl ws H) (q0 t0 : Nat) {cA : ClassId} {n : Nat} {f : Nat → Int32} (ha : ws[q0]? = some (a, .inl (cA, n, .inl f))) (ht : tys[t0]? = some (cA, .short)) {i : Int32} {x : Int32} (hout : ¬ vp_in i n) (hdg : decode cc pc = .ok (.sastore, 1))
    (k : ∀ tx : String, tx = (toString "Index " ++ toString i ++ toString " out of bounds for length " ++ toString n : String) → vx_Note p l e R s m args below meth c H locs cells slots Q (F0 m pc ls rest) "java/lang/ArrayIndexOutOfBoundsException" tx) : W p l e R s m args below meth c H locs cells slots Q (F0 m pc ls (.int x :: .int i :: .ref a :: rest)) := by
  intro T hT X
  obtain ⟨t, st, q⟩ := k _ rfl T hT X
  refine ⟨t, ?_, q⟩
  have h1 := X.sastoreOut hexec (by rw [hT]; exact hP q0 _ ha) ((hK.2 t0 _ ht).1 n (fun j => .int (f j))) (j := i) (by show (i < 0 ∨ (arrV _ _ _).slots.size ≤ _); rw [arrV_size]; exact Classical.byContradiction hout) (g := F0 m pc ls (.int x :: .int i :: .ref a :: rest)) rfl (rest := rest) rfl (by rw [hb]; exact hdg) t
  simp only [arrV_size] at h1
  exact h1 st
theorem vx_laldZ {D : va_G} {cl : List vw_C} {ws : va_W} {tys : List (ClassId × FieldType)} {a : Nat} (hexec : p.tables.exec = Jvm.exec) (hb : c.code = cc) (hK : va_K D cl tys s) (hP : va_P D cl ws H) (q0 t0 : Nat) {cA : ClassId} {n : Nat} {f : Nat → Int64} (ha : ws[q0]? = some (a, .inl (cA, n, .inr (.inl f)))) (ht : tys[t0]? = some (cA, .long)) {i : Int32} (hout : ¬ vp_in i n) (hdg : decode cc pc = .ok (.laload, 1))
    (k : ∀ tx : String, tx = (toString "Index " ++ toString i ++ toString " out of bounds for length " ++ toString n : String) → vx_Note p l e R s m args below meth c H locs cells slots Q (F0 m pc ls rest) "java/lang/ArrayIndexOutOfBoundsException" tx) : W p l e R s m args below meth c H locs cells slots Q (F0 m pc ls (.int i :: .ref a :: rest)) := by
  intro T hT X
  obtain ⟨t, st, q⟩ := k _ rfl T hT X
  refine ⟨t, ?_, q⟩
  have h1 := X.laloadOut hexec (by rw [hT]; exact hP q0 _ ha) ((hK.2 t0 _ ht).1 n (fun j => .long (f j))) (j := i) (by show (i < 0 ∨ (arrV _ _ _).slots.size ≤ _); rw [arrV_size]; exact Classical.byContradiction hout) (g := F0 m pc ls (.int i :: .ref a :: rest)) rfl (rest := rest) rfl (by rw [hb]; exact hdg) t
  simp only [arrV_size] at h1
  exact h1 st
theorem vx_lastZ {D : va_G} {cl : List vw_C} {ws : va_W} {tys : List (ClassId × FieldType)} {a : Nat} (hexec : p.tables.exec = Jvm.exec) (hb : c.code = cc) (hK : va_K D cl tys s) (hP : va_P D cl ws H) (q0 t0 : Nat) {cA : ClassId} {n : Nat} {f : Nat → Int64} (ha : ws[q0]? = some (a, .inl (cA, n, .inr (.inl f)))) (ht : tys[t0]? = some (cA, .long)) {i : Int32} {x : Int64} (hout : ¬ vp_in i n) (hdg : decode cc pc = .ok (.lastore, 1))
    (k : ∀ tx : String, tx = (toString "Index " ++ toString i ++ toString " out of bounds for length " ++ toString n : String) → vx_Note p l e R s m args below meth c H locs cells slots Q (F0 m pc ls rest) "java/lang/ArrayIndexOutOfBoundsException" tx) : W p l e R s m args below meth c H locs cells slots Q (F0 m pc ls (.long x :: .int i :: .ref a :: rest)) := by
  intro T hT X
  obtain ⟨t, st, q⟩ := k _ rfl T hT X
  refine ⟨t, ?_, q⟩
  have h1 := X.lastoreOut hexec (by rw [hT]; exact hP q0 _ ha) ((hK.2 t0 _ ht).1 n (fun j => .long (f j))) (j := i) (by show (i < 0 ∨ (arrV _ _ _).slots.size ≤ _); rw [arrV_size]; exact Classical.byContradiction hout) (g := F0 m pc ls (.long x :: .int i :: .ref a :: rest)) rfl (rest := rest) rfl (by rw [hb]; exact hdg) t
  simp only [arrV_size] at h1
  exact h1 st
theorem vx_faldZ {D : va_G} {cl : List vw_C} {ws : va_W} {tys : List (ClassId × FieldType)} {a : Nat} (hexec : p.tables.exec = Jvm.exec) (hb : c.code = cc) (hK : va_K D cl tys s) (hP : va_P D cl ws H) (q0 t0 : Nat) {cA : ClassId} {n : Nat} {f : Nat → UInt32} (ha : ws[q0]? = some (a, .inl (cA, n, .inr (.inr (.inl f))))) (ht : tys[t0]? = some (cA, .float)) {i : Int32} (hout : ¬ vp_in i n) (hdg : decode cc pc = .ok (.faload, 1))
    (k : ∀ tx : String, tx = (toString "Index " ++ toString i ++ toString " out of bounds for length " ++ toString n : String) → vx_Note p l e R s m args below meth c H locs cells slots Q (F0 m pc ls rest) "java/lang/ArrayIndexOutOfBoundsException" tx) : W p l e R s m args below meth c H locs cells slots Q (F0 m pc ls (.int i :: .ref a :: rest)) := by
  intro T hT X
  obtain ⟨t, st, q⟩ := k _ rfl T hT X
  refine ⟨t, ?_, q⟩
  have h1 := X.faloadOut hexec (by rw [hT]; exact hP q0 _ ha) ((hK.2 t0 _ ht).1 n (fun j => .float (f j))) (j := i) (by show (i < 0 ∨ (arrV _ _ _).slots.size ≤ _); rw [arrV_size]; exact Classical.byContradiction hout) (g := F0 m pc ls (.int i :: .ref a :: rest)) rfl (rest := rest) rfl (by rw [hb]; exact hdg) t
  simp only [arrV_size] at h1
  exact h1 st
theorem vx_fastZ {D : va_G} {cl : List vw_C} {ws : va_W} {tys : List (ClassId × FieldType)} {a : Nat} (hexec : p.tables.exec = Jvm.exec) (hb : c.code = cc) (hK : va_K D cl tys s) (hP : va_P D cl ws H) (q0 t0 : Nat) {cA : ClassId} {n : Nat} {f : Nat → UInt32} (ha : ws[q0]? = some (a, .inl (cA, n, .inr (.inr (.inl f))))) (ht : tys[t0]? = some (cA, .float)) {i : Int32} {x : UInt32} (hout : ¬ vp_in i n) (hdg : decode cc pc = .ok (.fastore, 1))
    (k : ∀ tx : String, tx = (toString "Index " ++ toString i ++ toString " out of bounds for length " ++ toString n : String) → vx_Note p l e R s m args below meth c H locs cells slots Q (F0 m pc ls rest) "java/lang/ArrayIndexOutOfBoundsException" tx) : W p l e R s m args below meth c H locs cells slots Q (F0 m pc ls (.float x :: .int i :: .ref a :: rest)) := by
  intro T hT X
  obtain ⟨t, st, q⟩ := k _ rfl T hT X
  refine ⟨t, ?_, q⟩
  have h1 := X.fastoreOut hexec (by rw [hT]; exact hP q0 _ ha) ((hK.2 t0 _ ht).1 n (fun j => .float (f j))) (j := i) (by show (i < 0 ∨ (arrV _ _ _).slots.size ≤ _); rw [arrV_size]; exact Classical.byContradiction hout) (g := F0 m pc ls (.float x :: .int i :: .ref a :: rest)) rfl (rest := rest) rfl (by rw [hb]; exact hdg) t
  simp only [arrV_size] at h1
  exact h1 st
theorem vx_daldZ {D : va_G} {cl : List vw_C} {ws : va_W} {tys : List (ClassId × FieldType)} {a : Nat} (hexec : p.tables.exec = Jvm.exec) (hb : c.code = cc) (hK : va_K D cl tys s) (hP : va_P D cl ws H) (q0 t0 : Nat) {cA : ClassId} {n : Nat} {f : Nat → UInt64} (ha : ws[q0]? = some (a, .inl (cA, n, .inr (.inr (.inr (.inl f)))))) (ht : tys[t0]? = some (cA, .double)) {i : Int32} (hout : ¬ vp_in i n) (hdg : decode cc pc = .ok (.daload, 1))
    (k : ∀ tx : String, tx = (toString "Index " ++ toString i ++ toString " out of bounds for length " ++ toString n : String) → vx_Note p l e R s m args below meth c H locs cells slots Q (F0 m pc ls rest) "java/lang/ArrayIndexOutOfBoundsException" tx) : W p l e R s m args below meth c H locs cells slots Q (F0 m pc ls (.int i :: .ref a :: rest)) := by
  intro T hT X
  obtain ⟨t, st, q⟩ := k _ rfl T hT X
  refine ⟨t, ?_, q⟩
  have h1 := X.daloadOut hexec (by rw [hT]; exact hP q0 _ ha) ((hK.2 t0 _ ht).1 n (fun j => .double (f j))) (j := i) (by show (i < 0 ∨ (arrV _ _ _).slots.size ≤ _); rw [arrV_size]; exact Classical.byContradiction hout) (g := F0 m pc ls (.int i :: .ref a :: rest)) rfl (rest := rest) rfl (by rw [hb]; exact hdg) t
  simp only [arrV_size] at h1
  exact h1 st
theorem vx_dastZ {D : va_G} {cl : List vw_C} {ws : va_W} {tys : List (ClassId × FieldType)} {a : Nat} (hexec : p.tables.exec = Jvm.exec) (hb : c.code = cc) (hK : va_K D cl tys s) (hP : va_P D cl ws H) (q0 t0 : Nat) {cA : ClassId} {n : Nat} {f : Nat → UInt64} (ha : ws[q0]? = some (a, .inl (cA, n, .inr (.inr (.inr (.inl f)))))) (ht : tys[t0]? = some (cA, .double)) {i : Int32} {x : UInt64} (hout : ¬ vp_in i n) (hdg : decode cc pc = .ok (.dastore, 1))
    (k : ∀ tx : String, tx = (toString "Index " ++ toString i ++ toString " out of bounds for length " ++ toString n : String) → vx_Note p l e R s m args below meth c H locs cells slots Q (F0 m pc ls rest) "java/lang/ArrayIndexOutOfBoundsException" tx) : W p l e R s m args below meth c H locs cells slots Q (F0 m pc ls (.double x :: .int i :: .ref a :: rest)) := by
  intro T hT X
  obtain ⟨t, st, q⟩ := k _ rfl T hT X
  refine ⟨t, ?_, q⟩
  have h1 := X.dastoreOut hexec (by rw [hT]; exact hP q0 _ ha) ((hK.2 t0 _ ht).1 n (fun j => .double (f j))) (j := i) (by show (i < 0 ∨ (arrV _ _ _).slots.size ≤ _); rw [arrV_size]; exact Classical.byContradiction hout) (g := F0 m pc ls (.double x :: .int i :: .ref a :: rest)) rfl (rest := rest) rfl (by rw [hb]; exact hdg) t
  simp only [arrV_size] at h1
  exact h1 st
theorem vx_arraylengthN (hexec : p.tables.exec = Jvm.exec) (hb : c.code = cc) (hdg : decode cc pc = .ok (.arraylength, 1)) (k : vx_NoteN p l e R s m args below meth c H locs cells slots Q (F0 m pc ls rest)) : W p l e R s m args below meth c H locs cells slots Q (F0 m pc ls (.null :: rest)) := by
  intro T hT X
  obtain ⟨t, st, q⟩ := k T hT X
  exact ⟨t, X.arraylengthNull hexec (g := F0 m pc ls (.null :: rest)) rfl (rest := rest) rfl (by rw [hb]; exact hdg) t st, q⟩
theorem vx_ialoadN (hexec : p.tables.exec = Jvm.exec) (hb : c.code = cc) {i : Int32} (hdg : decode cc pc = .ok (.iaload, 1)) (k : vx_NoteN p l e R s m args below meth c H locs cells slots Q (F0 m pc ls rest)) : W p l e R s m args below meth c H locs cells slots Q (F0 m pc ls (.int i :: .null :: rest)) := by
  intro T hT X
  obtain ⟨t, st, q⟩ := k T hT X
  exact ⟨t, X.ialoadNull hexec (g := F0 m pc ls (.int i :: .null :: rest)) rfl (rest := rest) rfl (by rw [hb]; exact hdg) t st, q⟩
theorem vx_laloadN (hexec : p.tables.exec = Jvm.exec) (hb : c.code = cc) {i : Int32} (hdg : decode cc pc = .ok (.laload, 1)) (k : vx_NoteN p l e R s m args below meth c H locs cells slots Q (F0 m pc ls rest)) : W p l e R s m args below meth c H locs cells slots Q (F0 m pc ls (.int i :: .null :: rest)) := by
  intro T hT X
  obtain ⟨t, st, q⟩ := k T hT X
  exact ⟨t, X.laloadNull hexec (g := F0 m pc ls (.int i :: .null :: rest)) rfl (rest := rest) rfl (by rw [hb]; exact hdg) t st, q⟩
theorem vx_faloadN (hexec : p.tables.exec = Jvm.exec) (hb : c.code = cc) {i : Int32} (hdg : decode cc pc = .ok (.faload, 1)) (k : vx_NoteN p l e R s m args below meth c H locs cells slots Q (F0 m pc ls rest)) : W p l e R s m args below meth c H locs cells slots Q (F0 m pc ls (.int i :: .null :: rest)) := by
  intro T hT X
  obtain ⟨t, st, q⟩ := k T hT X
  exact ⟨t, X.faloadNull hexec (g := F0 m pc ls (.int i :: .null :: rest)) rfl (rest := rest) rfl (by rw [hb]; exact hdg) t st, q⟩
theorem vx_daloadN (hexec : p.tables.exec = Jvm.exec) (hb : c.code = cc) {i : Int32} (hdg : decode cc pc = .ok (.daload, 1)) (k : vx_NoteN p l e R s m args below meth c H locs cells slots Q (F0 m pc ls rest)) : W p l e R s m args below meth c H locs cells slots Q (F0 m pc ls (.int i :: .null :: rest)) := by
  intro T hT X
  obtain ⟨t, st, q⟩ := k T hT X
  exact ⟨t, X.daloadNull hexec (g := F0 m pc ls (.int i :: .null :: rest)) rfl (rest := rest) rfl (by rw [hb]; exact hdg) t st, q⟩
theorem vx_aaloadN (hexec : p.tables.exec = Jvm.exec) (hb : c.code = cc) {i : Int32} (hdg : decode cc pc = .ok (.aaload, 1)) (k : vx_NoteN p l e R s m args below meth c H locs cells slots Q (F0 m pc ls rest)) : W p l e R s m args below meth c H locs cells slots Q (F0 m pc ls (.int i :: .null :: rest)) := by
  intro T hT X
  obtain ⟨t, st, q⟩ := k T hT X
  exact ⟨t, X.aaloadNull hexec (g := F0 m pc ls (.int i :: .null :: rest)) rfl (rest := rest) rfl (by rw [hb]; exact hdg) t st, q⟩
theorem vx_baloadN (hexec : p.tables.exec = Jvm.exec) (hb : c.code = cc) {i : Int32} (hdg : decode cc pc = .ok (.baload, 1)) (k : vx_NoteN p l e R s m args below meth c H locs cells slots Q (F0 m pc ls rest)) : W p l e R s m args below meth c H locs cells slots Q (F0 m pc ls (.int i :: .null :: rest)) := by
  intro T hT X
  obtain ⟨t, st, q⟩ := k T hT X
  exact ⟨t, X.baloadNull hexec (g := F0 m pc ls (.int i :: .null :: rest)) rfl (rest := rest) rfl (by rw [hb]; exact hdg) t st, q⟩
theorem vx_caloadN (hexec : p.tables.exec = Jvm.exec) (hb : c.code = cc) {i : Int32} (hdg : decode cc pc = .ok (.caload, 1)) (k : vx_NoteN p l e R s m args below meth c H locs cells slots Q (F0 m pc ls rest)) : W p l e R s m args below meth c H locs cells slots Q (F0 m pc ls (.int i :: .null :: rest)) := by
  intro T hT X
  obtain ⟨t, st, q⟩ := k T hT X
  exact ⟨t, X.caloadNull hexec (g := F0 m pc ls (.int i :: .null :: rest)) rfl (rest := rest) rfl (by rw [hb]; exact hdg) t st, q⟩
theorem vx_saloadN (hexec : p.tables.exec = Jvm.exec) (hb : c.code = cc) {i : Int32} (hdg : decode cc pc = .ok (.saload, 1)) (k : vx_NoteN p l e R s m args below meth c H locs cells slots Q (F0 m pc ls rest)) : W p l e R s m args below meth c H locs cells slots Q (F0 m pc ls (.int i :: .null :: rest)) := by
  intro T hT X
  obtain ⟨t, st, q⟩ := k T hT X
  exact ⟨t, X.saloadNull hexec (g := F0 m pc ls (.int i :: .null :: rest)) rfl (rest := rest) rfl (by rw [hb]; exact hdg) t st, q⟩
theorem vx_iastoreN (hexec : p.tables.exec = Jvm.exec) (hb : c.code = cc) {x : Int32} {i : Int32} (hdg : decode cc pc = .ok (.iastore, 1)) (k : vx_NoteN p l e R s m args below meth c H locs cells slots Q (F0 m pc ls rest)) : W p l e R s m args below meth c H locs cells slots Q (F0 m pc ls (.int x :: .int i :: .null :: rest)) := by
  intro T hT X
  obtain ⟨t, st, q⟩ := k T hT X
  exact ⟨t, X.iastoreNull hexec (g := F0 m pc ls (.int x :: .int i :: .null :: rest)) rfl (rest := rest) rfl (by rw [hb]; exact hdg) t st, q⟩
theorem vx_lastoreN (hexec : p.tables.exec = Jvm.exec) (hb : c.code = cc) {x : Int64} {i : Int32} (hdg : decode cc pc = .ok (.lastore, 1)) (k : vx_NoteN p l e R s m args below meth c H locs cells slots Q (F0 m pc ls rest)) : W p l e R s m args below meth c H locs cells slots Q (F0 m pc ls (.long x :: .int i :: .null :: rest)) := by
  intro T hT X
  obtain ⟨t, st, q⟩ := k T hT X
  exact ⟨t, X.lastoreNull hexec (g := F0 m pc ls (.long x :: .int i :: .null :: rest)) rfl (rest := rest) rfl (by rw [hb]; exact hdg) t st, q⟩
theorem vx_fastoreN (hexec : p.tables.exec = Jvm.exec) (hb : c.code = cc) {x : UInt32} {i : Int32} (hdg : decode cc pc = .ok (.fastore, 1)) (k : vx_NoteN p l e R s m args below meth c H locs cells slots Q (F0 m pc ls rest)) : W p l e R s m args below meth c H locs cells slots Q (F0 m pc ls (.float x :: .int i :: .null :: rest)) := by
  intro T hT X
  obtain ⟨t, st, q⟩ := k T hT X
  exact ⟨t, X.fastoreNull hexec (g := F0 m pc ls (.float x :: .int i :: .null :: rest)) rfl (rest := rest) rfl (by rw [hb]; exact hdg) t st, q⟩
theorem vx_dastoreN (hexec : p.tables.exec = Jvm.exec) (hb : c.code = cc) {x : UInt64} {i : Int32} (hdg : decode cc pc = .ok (.dastore, 1)) (k : vx_NoteN p l e R s m args below meth c H locs cells slots Q (F0 m pc ls rest)) : W p l e R s m args below meth c H locs cells slots Q (F0 m pc ls (.double x :: .int i :: .null :: rest)) := by
  intro T hT X
  obtain ⟨t, st, q⟩ := k T hT X
  exact ⟨t, X.dastoreNull hexec (g := F0 m pc ls (.double x :: .int i :: .null :: rest)) rfl (rest := rest) rfl (by rw [hb]; exact hdg) t st, q⟩
theorem vx_bastoreN (hexec : p.tables.exec = Jvm.exec) (hb : c.code = cc) {x : Int32} {i : Int32} (hdg : decode cc pc = .ok (.bastore, 1)) (k : vx_NoteN p l e R s m args below meth c H locs cells slots Q (F0 m pc ls rest)) : W p l e R s m args below meth c H locs cells slots Q (F0 m pc ls (.int x :: .int i :: .null :: rest)) := by
  intro T hT X
  obtain ⟨t, st, q⟩ := k T hT X
  exact ⟨t, X.bastoreNull hexec (g := F0 m pc ls (.int x :: .int i :: .null :: rest)) rfl (rest := rest) rfl (by rw [hb]; exact hdg) t st, q⟩
theorem vx_castoreN (hexec : p.tables.exec = Jvm.exec) (hb : c.code = cc) {x : Int32} {i : Int32} (hdg : decode cc pc = .ok (.castore, 1)) (k : vx_NoteN p l e R s m args below meth c H locs cells slots Q (F0 m pc ls rest)) : W p l e R s m args below meth c H locs cells slots Q (F0 m pc ls (.int x :: .int i :: .null :: rest)) := by
  intro T hT X
  obtain ⟨t, st, q⟩ := k T hT X
  exact ⟨t, X.castoreNull hexec (g := F0 m pc ls (.int x :: .int i :: .null :: rest)) rfl (rest := rest) rfl (by rw [hb]; exact hdg) t st, q⟩
theorem vx_sastoreN (hexec : p.tables.exec = Jvm.exec) (hb : c.code = cc) {x : Int32} {i : Int32} (hdg : decode cc pc = .ok (.sastore, 1)) (k : vx_NoteN p l e R s m args below meth c H locs cells slots Q (F0 m pc ls rest)) : W p l e R s m args below meth c H locs cells slots Q (F0 m pc ls (.int x :: .int i :: .null :: rest)) := by
  intro T hT X
  obtain ⟨t, st, q⟩ := k T hT X
  exact ⟨t, X.sastoreNull hexec (g := F0 m pc ls (.int x :: .int i :: .null :: rest)) rfl (rest := rest) rfl (by rw [hb]; exact hdg) t st, q⟩
theorem vx_invokeN {own C : String} {index maxL : Nat} {y : MethodName} {bytes : ByteArray} {ret : Option FieldType} (hexec : p.tables.exec = Jvm.exec) (hb : c.code = cc) (hown : s.vm.findClass own = some m.cls) (hlink : (Cond.methodLink own index y).before args s = true) (hinst : (Cond.instanceMethod y).before args s = true) (hcode : (Cond.code y bytes maxL ret).before args s = true) (hsel : (Cond.selects C y y).before args s = true)
    (hx : y.cls ≠ "java/lang/invoke/MethodHandle" ∧ y.cls ≠ "java/lang/invoke/VarHandle") {As : List Value} (hlen : (parseMethodDescriptor y.desc).map (fun d => d.parameters.length) = some As.length) (hdg : decode cc pc = .ok (.invokevirtual index, 3))
    (k : vx_NoteN p l e R s m args below meth c H locs cells slots Q (F0 m pc ls rest)) {st0 : List Value} (hst : st0 = As.reverse ++ .null :: rest) : W p l e R s m args below meth c H locs cells slots Q (F0 m pc ls st0) := by
  intro T hT X
  obtain ⟨r0, r, hn, hrm, hstR, hsigR⟩ := va_Decl.of hinst hcode
  obtain ⟨c2, r2, m2, q1, q2, q3, q4, kP, hkP, hkPi⟩ := Cond.selects_spec hsel
  cases hn.symm.trans q3
  have hl9 : As.length = r.sig.parameters.length := by
    rw [hsigR] at hlen
    exact (Option.some.inj hlen).symm
  obtain ⟨vm', X1, st1⟩ := X.invokevirtualNull hexec hown hlink hn hrm hstR hkP hkPi hx (g := F0 m pc ls st0) rfl (argsL := As) (rest := rest) hl9 hst (by rw [hb]; exact hdg)
  obtain ⟨t, st, q⟩ := k (T.setVm vm') hT X1
  exact ⟨t, st1 t st, q⟩
theorem vx_newarrayZ {atype : ArrayType} (hexec : p.tables.exec = Jvm.exec) (hb : c.code = cc) {n : Int32} (h0 : n < 0) (hdg : decode cc pc = .ok (.newarray atype, 2)) (k : ∀ tx : String, tx = toString n → vx_Note p l e R s m args below meth c H locs cells slots Q (F0 m pc ls rest) "java/lang/NegativeArraySizeException" tx) : W p l e R s m args below meth c H locs cells slots Q (F0 m pc ls (.int n :: rest)) := by
  intro T hT X
  obtain ⟨t, st, q⟩ := k _ rfl T hT X
  exact ⟨t, X.newarrayNegative hexec (g := F0 m pc ls (.int n :: rest)) rfl h0 (rest := rest) rfl (by rw [hb]; exact hdg) t st, q⟩
end
end VXM
/-! ===== END ===== -/
/-! ===== BEGIN an exception as an object: made, kept, thrown later (no traces kept) ===== -/
section VXK
variable {p : Program} {l : Launch} {e : Env} {R : Room} {s : State} {m₀ : MethodId} {args : Array Value} {below : List Frame} {meth : Method} {c : Code} {W : State} {locs : List Loc} {cells slots : Nat}
set_option maxHeartbeats 1000000 in
theorem vx_ctorMadeS (X : Stand p l e R s m₀ args below meth c W locs cells slots) (hexec : p.tables.exec = Jvm.exec) (htr : e.platform.stackTraces = false) {own cls : String} {names : List String} {ic : Nat}
    (hown : s.vm.findClass own = some m₀.cls) (hcls : Bundle.fit cls = true) (hnames : ∀ n ∈ names, Bundle.fit n = true)
    (h : ∀ a ∈ Bundle.ownAtoms own ic cls names, a.before args s = true)
    (hlocs : ∀ x ∈ locs, ∀ cell, s.heap[x.base]? = some cell → cell.vm.isStatics = false)
    {a : Addr} {cX : ClassId} {kX : Class} (hfoundX : s.vm.findClass cls = some cX) (hkX : s.vm.classes[cX]? = some kX) (hcell : W.heap[a]? = some (freshCell cX kX)) (hnew : s.heap.size ≤ a)
    {msg : Value} (hmsg : msg.isRef = true)
    {g : JFrame} (hg : g.method = m₀) (hsize : g.locals.size = c.maxLocals) {rest : List Value} (hstack : g.stack = msg :: .ref a :: .ref a :: rest)
    (hd6 : decode c.code g.pc = .ok (.invokespecial ic, 3))
    (hRframes : names.length + 3 < R.frames) (hRlocals : 2 * g.monitorRoom + ((Value.ref a :: rest).map fun v => v.category).sum + (13 * (names.length + 1) + 42) ≤ R.locals) :
    ∃ (V : State) (ce : Cell) (L : List Loc), Stand p l e R s m₀ args below meth c (V.setCell a ce) (locs ++ L) cells slots ∧ (∀ y ∈ L, y.base = a) ∧ a < V.heap.size ∧ ce.cls = cX ∧ ce.vm = .none ∧
      ∀ target, Steps p.tables e below ((V.setCell a ce).setTop { g with stack := .ref a :: rest, pc := g.pc + 3 }) target → Steps p.tables e below (W.setTop g) target := by
  have howns : e.platform.frameOwnsMonitors = true := by rw [X.admits.platform]
  have hfin : e.platform.finalization = false := by rw [X.admits.platform]
  have hpl : e.platform.magicAccessors = ({} : Platform).magicAccessors := by rw [X.admits.platform]
  have a' : ∀ x, x ∈ Bundle.ownAtoms own ic cls names → x.holds args s none s [] = true := fun x hx => h x hx
  obtain ⟨T, Z0, L, -, Y⟩ := ThrowableC.of_atoms (args := args) howns hfin hpl (fun x hx => h x (by simp [Bundle.ownAtoms, hx]))
  obtain ⟨Z, M, LZ, LM, hnZ⟩ := Init0T.ofS_atoms (args := args) hpl L Y (fun x hx => h x (by simp [Bundle.ownAtoms, hx]))
  obtain ⟨P1, Ps, hlen, L1, hL, hP1m, hlink1, hlink⟩ := Bundle.chainS (args := args) hpl hnZ names cls hcls hnames (fun x hx => h x (by simp [Bundle.ownAtoms, hx]))
  have hfound : s.vm.findClass cls = some P1.m.cls := findClass_of_methodNamed hP1m
  cases Option.some.inj (hfoundX.symm.trans hfound)
  obtain ⟨c1, kX', hc1, hk, hord, -, -, hn6⟩ := Cond.instantiable_spec (a' (.instantiable cls 6) (by simp [Bundle.ownAtoms]))
  cases Option.some.inj (hc1.symm.trans hfound)
  cases Option.some.inj (hkX.symm.trans hk)
  have hsel0 : selectMethod e.platform s.vm P1.m.cls T.fill0 = .method T.fill0 := by
    obtain ⟨c2, r2, m2, q1, q2, q3, q4, -⟩ := Cond.selects_spec (a' (.selects cls Bundle.tFill0 Bundle.tFill0) (by simp [Bundle.ownAtoms]))
    cases Option.some.inj (q1.symm.trans hfound)
    cases Option.some.inj (q2.symm.trans (State.methodFound?_of_named Y.fill0 (by decide)))
    cases Option.some.inj (q3.symm.trans Y.fill0)
    rw [Launch.admits_selectMethod X.admits]; exact q4
  have hselF : selectMethod e.platform s.vm P1.m.cls T.fill = .method T.fill := by
    obtain ⟨c2, r2, m2, q1, q2, q3, q4, -⟩ := Cond.selects_spec (a' (.selects cls Bundle.tFill Bundle.tFill) (by simp [Bundle.ownAtoms]))
    cases Option.some.inj (q1.symm.trans hfound)
    cases Option.some.inj (q2.symm.trans (State.methodFound?_of_named Y.fill (by decide)))
    cases Option.some.inj (q3.symm.trans Y.fill)
    rw [Launch.admits_selectMethod X.admits]; exact q4
  obtain ⟨cellS0, hcS0, hiss⟩ := Y.statics
  obtain ⟨u0, hu0⟩ := Cond.staticRefV Y.unassigned L.unassignedStatic L.statics hcS0 hiss (a' (.isRef (.static Bundle.tN "UNASSIGNED_STACK" Bundle.steD)) (by simp [Bundle.ownAtoms]))
  obtain ⟨sen, hsen⟩ := Cond.staticRefV Y.sentinel L.sentinelStatic L.statics hcS0 hiss (a' (.isRef (.static Bundle.tN "SUPPRESSED_SENTINEL" Bundle.listD)) (by simp [Bundle.ownAtoms]))
  obtain ⟨ci198, i198, fB, hk198, hg198, ha198, hsB, -, hnB, htB, hffB⟩ := Cond.ownField (t := .object "java/lang/Object") Y.found L.cls (by decide +kernel) (a' (.fieldLink Bundle.tN 198 Bundle.tN "backtrace" "Ljava/lang/Object;") (by simp [Bundle.ownAtoms])) (a' (.lays Bundle.tN Bundle.tN "backtrace" "Ljava/lang/Object;") (by simp [Bundle.ownAtoms])) e.platform hpl
  obtain ⟨cellS, hcS', heS, -, hkeep⟩ := X.same.2.2.2.2.2 T.aS cellS0 hcS0
  have hcellS : W.heap[T.aS]? = some cellS := hcS'
  have hout' : ∀ i, (⟨T.aS, i⟩ : Loc) ∉ locs := fun i hmem => by
    have := hlocs _ hmem cellS0 hcS0
    rw [hiss] at this; cases this
  have hknownS : cellS.vm ≠ .unknown := by
    rw [heS]; intro hu
    rw [show cellS0.vm = .unknown from hu] at hiss
    cases hiss
  have hneS : T.aS ≠ a := Nat.ne_of_lt (Nat.lt_of_lt_of_le (Array.getElem?_eq_some_iff.mp hcS0).1 hnew)
  obtain ⟨iM, hffM⟩ := Y.msg
  obtain ⟨tyC, dC, hdC, hdnC⟩ := Cond.laysAt hfound hk Y.cause (a' (.lays cls Bundle.tN "cause" "Ljava/lang/Throwable;") (by simp [Bundle.ownAtoms]))
  obtain ⟨tyS, dS, hdS, hdnS⟩ := Cond.laysAt hfound hk Y.stack (a' (.lays cls Bundle.tN "stackTrace" Bundle.steD) (by simp [Bundle.ownAtoms]))
  obtain ⟨tyP, dP, hdP, hdnP⟩ := Cond.laysAt hfound hk Y.supp (a' (.lays cls Bundle.tN "suppressedExceptions" Bundle.listD) (by simp [Bundle.ownAtoms]))
  obtain ⟨tyM, dM, hdM, hdnM⟩ := Cond.laysAt hfound hk hffM (a' (.lays cls Bundle.tN "detailMessage" "Ljava/lang/String;") (by simp [Bundle.ownAtoms]))
  obtain ⟨tyB, dB, hdB, hdnB⟩ := Cond.laysAt hfound hk hffB (a' (.lays cls Bundle.tN "backtrace" "Ljava/lang/Object;") (by simp [Bundle.ownAtoms]))
  have bC := Cond.laysApart hdB hdC hdnB hdnC (by rw [hnB, Y.causeName]; decide)
  have bS := Cond.laysApart hdB hdS hdnB hdnS (by rw [hnB, Y.stackName]; decide)
  have bP := Cond.laysApart hdB hdP hdnB hdnP (by rw [hnB, Y.suppName]; decide)
  have hskip : SkipFacts T e.platform s (fun u => u) u0 ((preparedCellV T.toThrowableT (freshCell P1.m.cls kX) a u0 sen).withEntry W.cur) :=
    ⟨{ ci198 := ci198, i198 := i198, fBack := fB }, ⟨hk198, hg198, ha198, hsB⟩, by
      have := fresh_default (c := P1.m.cls) tyB
      rw [htB] at this
      simpa [preparedCellV, Cell.setSlot, Cell.withEntry, Array.getElem?_setIfInBounds, bC, bS, bP, bC.symm, bS.symm, bP.symm, defaultValue] using this, fun _ _ => rfl⟩
  obtain ⟨tm, methC, cdC, kC, vm₁, hnC, -, -, -, -, -, -, -, hW₁, st1⟩ := Steps.initColdS (tb := p.tables) (e := e) (below := below) (s := s) (U := W) X.here hexec X.warmed hpl hown (t := Bundle.initS cls) rfl rfl (Bundle.fit_spec hcls).2
    (a' (.methodLink own ic (Bundle.initS cls)) (by simp [Bundle.ownAtoms])) (h (.instanceMethod (Bundle.initS cls)) (by cases names <;> simp [Bundle.ownAtoms, Bundle.chainSAtoms, Bundle.passSAtoms])) (bytes := Bundle.six) (maxL := 2) (h (.code (Bundle.initS cls) Bundle.six 2 none) (by cases names <;> simp [Bundle.ownAtoms, Bundle.chainSAtoms, Bundle.passSAtoms]))
    (f := g) hg (a := a) (msg := msg) (rest := .ref a :: rest) hstack hd6
  cases Option.some.inj (hnC.symm.trans hP1m)
  have X₁ := X.noted hW₁
  obtain ⟨vm₂, X₂, st2⟩ := X₁.ctorMessageOffV hexec (g := { g with stack := .ref a :: rest }) hg hsize T L Z LZ M LM (P1 :: Ps)
    (fun P hP => by rcases List.mem_cons.mp hP with rfl | hP; exact L1; exact hL P hP) ⟨hlink1, hlink⟩ (u0 := u0) (sen := sen) (self := a) hmsg (cell := freshCell P1.m.cls kX) (cellS := cellS)
    hcell (fun _ => by simp) (by simp) rfl rfl hsel0 hselF hcellS hneS hknownS (by rw [hkeep _ (hout' _)]; exact hu0) (by rw [hkeep _ (hout' _)]; exact hsen)
    (Takes.of_laid hk hord tyC (by rw [Y.causeType]; rfl)) (Takes.of_laid hk hord tyS (by rw [Y.stackType]; exact fits_refV_array _ u0)) (Takes.of_laid hk hord tyP (by rw [Y.suppType]; exact fits_refV_object _ sen))
    (Takes.of_laid hk hord tyM (by rw [Y.msgType]; exact fits_refV_object _ ⟨msg, hmsg⟩)) Y.objLocals hskip htr [] hd6
    (by simp only [List.length_cons, hlen]; omega) (by simp only [List.length_cons, hlen]; exact hRlocals)
  have hlt : a < ((W.setVm vm₁).setVm vm₂).heap.size := (Array.getElem?_eq_some_iff.mp hcell).1
  refine ⟨(W.setVm vm₁).setVm vm₂, _, _, X₂, fun y hy => ?_, hlt, rfl, rfl, fun target hwalk => st1 _ (fun acts => ?_)⟩
  · simp only [List.mem_cons, List.not_mem_nil, or_false] at hy
    rcases hy with rfl | rfl | rfl | rfl | rfl <;> rfl
  · rw [doInvoke_state]
    exact st2 _ hwalk
set_option maxHeartbeats 1000000 in
theorem vx_ctorMade0 (X : Stand p l e R s m₀ args below meth c W locs cells slots) (hexec : p.tables.exec = Jvm.exec) (htr : e.platform.stackTraces = false) {own cls : String} {names : List String} {ic : Nat}
    (hown : s.vm.findClass own = some m₀.cls) (hcls : Bundle.fit cls = true) (hnames : ∀ n ∈ names, Bundle.fit n = true)
    (h : ∀ a ∈ Bundle.ownAtoms0 own ic cls names, a.before args s = true)
    (hlocs : ∀ x ∈ locs, ∀ cell, s.heap[x.base]? = some cell → cell.vm.isStatics = false)
    {a : Addr} {cX : ClassId} {kX : Class} (hfoundX : s.vm.findClass cls = some cX) (hkX : s.vm.classes[cX]? = some kX) (hcell : W.heap[a]? = some (freshCell cX kX)) (hnew : s.heap.size ≤ a)
    {g : JFrame} (hg : g.method = m₀) (hsize : g.locals.size = c.maxLocals) {rest : List Value} (hstack : g.stack = .ref a :: .ref a :: rest)
    (hd6 : decode c.code g.pc = .ok (.invokespecial ic, 3))
    (hRframes : names.length + 3 < R.frames) (hRlocals : 2 * g.monitorRoom + ((Value.ref a :: rest).map fun v => v.category).sum + (13 * (names.length + 1) + 41) ≤ R.locals) :
    ∃ (V : State) (ce : Cell) (L : List Loc), Stand p l e R s m₀ args below meth c (V.setCell a ce) (locs ++ L) cells slots ∧ (∀ y ∈ L, y.base = a) ∧ a < V.heap.size ∧ ce.cls = cX ∧ ce.vm = .none ∧
      ∀ target, Steps p.tables e below ((V.setCell a ce).setTop { g with stack := .ref a :: rest, pc := g.pc + 3 }) target → Steps p.tables e below (W.setTop g) target := by
  have howns : e.platform.frameOwnsMonitors = true := by rw [X.admits.platform]
  have hfin : e.platform.finalization = false := by rw [X.admits.platform]
  have hpl : e.platform.magicAccessors = ({} : Platform).magicAccessors := by rw [X.admits.platform]
  have a' : ∀ x, x ∈ Bundle.ownAtoms0 own ic cls names → x.holds args s none s [] = true := fun x hx => h x hx
  obtain ⟨T, Z, L, LZ, Y⟩ := ThrowableC.of_atoms (args := args) howns hfin hpl (fun x hx => h x (by simp [Bundle.ownAtoms0, hx]))
  obtain ⟨P1, Ps, hlen, L1, hL, hP1m, hlink1, hlink⟩ := Bundle.chain0 (args := args) hpl Y.init0 names cls hcls hnames (fun x hx => h x (by simp [Bundle.ownAtoms0, hx]))
  have hfound : s.vm.findClass cls = some P1.m.cls := findClass_of_methodNamed hP1m
  cases Option.some.inj (hfoundX.symm.trans hfound)
  obtain ⟨c1, kX', hc1, hk, hord, -, -, hn6⟩ := Cond.instantiable_spec (a' (.instantiable cls 6) (by simp [Bundle.ownAtoms0]))
  cases Option.some.inj (hc1.symm.trans hfound)
  cases Option.some.inj (hkX.symm.trans hk)
  have hsel0 : selectMethod e.platform s.vm P1.m.cls T.fill0 = .method T.fill0 := by
    obtain ⟨c2, r2, m2, q1, q2, q3, q4, -⟩ := Cond.selects_spec (a' (.selects cls Bundle.tFill0 Bundle.tFill0) (by simp [Bundle.ownAtoms0]))
    cases Option.some.inj (q1.symm.trans hfound)
    cases Option.some.inj (q2.symm.trans (State.methodFound?_of_named Y.fill0 (by decide)))
    cases Option.some.inj (q3.symm.trans Y.fill0)
    rw [Launch.admits_selectMethod X.admits]; exact q4
  have hselF : selectMethod e.platform s.vm P1.m.cls T.fill = .method T.fill := by
    obtain ⟨c2, r2, m2, q1, q2, q3, q4, -⟩ := Cond.selects_spec (a' (.selects cls Bundle.tFill Bundle.tFill) (by simp [Bundle.ownAtoms0]))
    cases Option.some.inj (q1.symm.trans hfound)
    cases Option.some.inj (q2.symm.trans (State.methodFound?_of_named Y.fill (by decide)))
    cases Option.some.inj (q3.symm.trans Y.fill)
    rw [Launch.admits_selectMethod X.admits]; exact q4
  obtain ⟨cellS0, hcS0, hiss⟩ := Y.statics
  obtain ⟨u0, hu0⟩ := Cond.staticRefV Y.unassigned L.unassignedStatic L.statics hcS0 hiss (a' (.isRef (.static Bundle.tN "UNASSIGNED_STACK" Bundle.steD)) (by simp [Bundle.ownAtoms0]))
  obtain ⟨sen, hsen⟩ := Cond.staticRefV Y.sentinel L.sentinelStatic L.statics hcS0 hiss (a' (.isRef (.static Bundle.tN "SUPPRESSED_SENTINEL" Bundle.listD)) (by simp [Bundle.ownAtoms0]))
  obtain ⟨ci198, i198, fB, hk198, hg198, ha198, hsB, -, hnB, htB, hffB⟩ := Cond.ownField (t := .object "java/lang/Object") Y.found L.cls (by decide +kernel) (a' (.fieldLink Bundle.tN 198 Bundle.tN "backtrace" "Ljava/lang/Object;") (by simp [Bundle.ownAtoms0])) (a' (.lays Bundle.tN Bundle.tN "backtrace" "Ljava/lang/Object;") (by simp [Bundle.ownAtoms0])) e.platform hpl
  obtain ⟨cellS, hcS', heS, -, hkeep⟩ := X.same.2.2.2.2.2 T.aS cellS0 hcS0
  have hcellS : W.heap[T.aS]? = some cellS := hcS'
  have hout' : ∀ i, (⟨T.aS, i⟩ : Loc) ∉ locs := fun i hmem => by
    have := hlocs _ hmem cellS0 hcS0
    rw [hiss] at this; cases this
  have hknownS : cellS.vm ≠ .unknown := by
    rw [heS]; intro hu
    rw [show cellS0.vm = .unknown from hu] at hiss
    cases hiss
  have hneS : T.aS ≠ a := Nat.ne_of_lt (Nat.lt_of_lt_of_le (Array.getElem?_eq_some_iff.mp hcS0).1 hnew)
  obtain ⟨iM, hffM⟩ := Y.msg
  obtain ⟨tyC, dC, hdC, hdnC⟩ := Cond.laysAt hfound hk Y.cause (a' (.lays cls Bundle.tN "cause" "Ljava/lang/Throwable;") (by simp [Bundle.ownAtoms0]))
  obtain ⟨tyS, dS, hdS, hdnS⟩ := Cond.laysAt hfound hk Y.stack (a' (.lays cls Bundle.tN "stackTrace" Bundle.steD) (by simp [Bundle.ownAtoms0]))
  obtain ⟨tyP, dP, hdP, hdnP⟩ := Cond.laysAt hfound hk Y.supp (a' (.lays cls Bundle.tN "suppressedExceptions" Bundle.listD) (by simp [Bundle.ownAtoms0]))
  obtain ⟨tyM, dM, hdM, hdnM⟩ := Cond.laysAt hfound hk hffM (a' (.lays cls Bundle.tN "detailMessage" "Ljava/lang/String;") (by simp [Bundle.ownAtoms0]))
  obtain ⟨tyB, dB, hdB, hdnB⟩ := Cond.laysAt hfound hk hffB (a' (.lays cls Bundle.tN "backtrace" "Ljava/lang/Object;") (by simp [Bundle.ownAtoms0]))
  have bC := Cond.laysApart hdB hdC hdnB hdnC (by rw [hnB, Y.causeName]; decide)
  have bS := Cond.laysApart hdB hdS hdnB hdnS (by rw [hnB, Y.stackName]; decide)
  have bP := Cond.laysApart hdB hdP hdnB hdnP (by rw [hnB, Y.suppName]; decide)
  have hskip : SkipFacts T e.platform s (fun u => u) u0 ((preparedCellV T.toThrowableT (freshCell P1.m.cls kX) a u0 sen).withEntry W.cur) :=
    ⟨{ ci198 := ci198, i198 := i198, fBack := fB }, ⟨hk198, hg198, ha198, hsB⟩, by
      have := fresh_default (c := P1.m.cls) tyB
      rw [htB] at this
      simpa [preparedCellV, Cell.setSlot, Cell.withEntry, Array.getElem?_setIfInBounds, bC, bS, bP, bC.symm, bS.symm, bP.symm, defaultValue] using this, fun _ _ => rfl⟩
  obtain ⟨tm, methC, cdC, kC, vm₁, hnC, -, -, -, -, -, -, -, hW₁, st1⟩ := Steps.initCold (tb := p.tables) (e := e) (below := below) (s := s) (U := W) X.here hexec X.warmed hpl hown (t := Bundle.init0 cls) rfl rfl (Bundle.fit_spec hcls).2
    (a' (.methodLink own ic (Bundle.init0 cls)) (by simp [Bundle.ownAtoms0])) (h (.instanceMethod (Bundle.init0 cls)) (by cases names <;> simp [Bundle.ownAtoms0, Bundle.chain0Atoms, Bundle.passAtoms])) (bytes := Bundle.five) (maxL := 1) (h (.code (Bundle.init0 cls) Bundle.five 1 none) (by cases names <;> simp [Bundle.ownAtoms0, Bundle.chain0Atoms, Bundle.passAtoms]))
    (f := g) hg (a := a) (rest := .ref a :: rest) hstack hd6
  cases Option.some.inj (hnC.symm.trans hP1m)
  have X₁ := X.noted hW₁
  obtain ⟨vm₂, X₂, st2⟩ := X₁.ctorPlainOffV hexec (g := { g with stack := .ref a :: rest }) hg hsize T L Z LZ (P1 :: Ps)
    (fun P hP => by rcases List.mem_cons.mp hP with rfl | hP; exact L1; exact hL P hP) ⟨hlink1, hlink⟩ (u0 := u0) (sen := sen) (self := a) (cell := freshCell P1.m.cls kX) (cellS := cellS)
    hcell (fun _ => by simp) (by simp) rfl rfl hsel0 hselF hcellS hneS hknownS (by rw [hkeep _ (hout' _)]; exact hu0) (by rw [hkeep _ (hout' _)]; exact hsen)
    (Takes.of_laid hk hord tyC (by rw [Y.causeType]; rfl)) (Takes.of_laid hk hord tyS (by rw [Y.stackType]; exact fits_refV_array _ u0)) (Takes.of_laid hk hord tyP (by rw [Y.suppType]; exact fits_refV_object _ sen)) Y.objLocals hskip htr [] hd6
    (by simp only [List.length_cons, hlen]; omega) (by simp only [List.length_cons, hlen]; exact hRlocals)
  have hlt : a < ((W.setVm vm₁).setVm vm₂).heap.size := (Array.getElem?_eq_some_iff.mp hcell).1
  refine ⟨(W.setVm vm₁).setVm vm₂, _, _, X₂, fun y hy => ?_, hlt, rfl, rfl, fun target hwalk => st1 _ (fun acts => ?_)⟩
  · simp only [List.mem_cons, List.not_mem_nil, or_false] at hy
    rcases hy with rfl | rfl | rfl | rfl <;> rfl
  · rw [doInvoke_state]
    exact st2 _ hwalk
end VXK
section VXK2
variable {p : Program} {l : Launch} {e : Env} {R : Room} {s : State} {m : MethodId} {args : Array Value} {below : List Frame} {meth : Method} {c : Code} {H : Heap} {locs : List Loc} {cells slots : Nat} {Q : State → Prop}
variable {ls : Array Slot} {rest : List Value} {D : va_G} {cl : List vw_C} {tys : List (ClassId × FieldType)} {ws : va_W}
/-- 'new E("text")' that isn't thrown at once: the object goes on the stack -/
theorem vx_makeS {cc : ByteArray} {pc : Nat} (hexec : p.tables.exec = Jvm.exec) (hb : c.code = cc) (hl : l.stackTraces = false) {own cls text : String} {names : List String} {ik is ic sa ci : Nat} {A : Nat → Prop} {T0 : u_T}
    (hown : s.vm.findClass own = some m.cls) (hcls : Bundle.fit cls = true) (hnames : ∀ n ∈ names, Bundle.fit n = true)
    (hk : (Cond.classLink own ik cls).before args s = true) (hini : (Cond.initialized cls).before args s = true) (hstr : vk_R own is text sa s) (hat : ∀ w ∈ vx_atS own ic cls names, w.before args s = true)
    (hgood : ∀ w ∈ Cond.classLink own ik cls :: Cond.initialized cls :: vx_atS own ic cls names, vx_ot w = true)
    (hU : vx_Zq Bundle.tN "UNASSIGNED_STACK" Bundle.steD A s s.heap) (hN : vx_Zq Bundle.tN "SUPPRESSED_SENTINEL" Bundle.listD A s s.heap) (hS : va_S A s.heap H locs) (hsize : ls.size = c.maxLocals)
    (d0 : decode cc pc = .ok (.new ik, 3)) (d3 : decode cc (pc + 3) = .ok (.dup, 1)) (d4 : decode cc (pc + 4) = .ok (.ldc is, 2)) (d6 : decode cc (pc + 6) = .ok (.invokespecial ic, 3))
    (hK : va_K D cl tys s) (hP : va_P D cl ws H) (hD : va_D A ws) (hA : ∀ q, s.heap.size ≤ q → A q) (hc : cl[ci]? = some (cls, T0, 0))
    (hRframes : names.length + 3 < R.frames) (hRlocals : (rest.map fun v => v.category).sum + (13 * (names.length + 1) + 43) ≤ R.locals) (hRcells : cells + 1 ≤ R.cells) (hRslots : slots + 6 ≤ R.slots)
    (kk : ∀ (q : Nat) (H1 : Heap), va_P D cl (ws ++ [(q, .inr (ci, []))]) H1 → va_D A (ws ++ [(q, .inr (ci, []))]) → va_S A s.heap H1 locs → W p l e R s m args below meth c H1 locs (cells + 1) (slots + 6) Q (F0 m (pc + 9) ls (.ref q :: rest))) :
    W p l e R s m args below meth c H locs cells slots Q (F0 m pc ls rest) := by
  intro T hT X
  subst hT
  have htr : e.platform.stackTraces = false := (show e.platform.stackTraces = l.stackTraces by rw [X.admits.platform]).trans hl
  have Y := vx_rebase X (R' := { frames := R.frames, locals := R.locals, cells := 1, slots := 6 }) (Nat.le_refl _) (Nat.le_refl _) hRcells hRslots
  obtain ⟨s', hA'⟩ : ∃ z, z = (T.setVm s.vm).setFrames (.invoking m args :: below) := ⟨_, rfl⟩
  rw [← hA'] at Y
  have hvm : s'.vm = s.vm := by rw [hA']; rfl
  have hhp : s'.heap = T.heap := by rw [hA']; rfl
  have hW0 : s.WarmedH s'.vm := by rw [hvm]; exact State.WarmedH.refl s
  have hat' : ∀ w ∈ vx_atS own ic cls names, w.before args s' = true := fun w hw => vx_ot_at hW0 hvm.symm (hgood w (List.mem_cons_of_mem _ (List.mem_cons_of_mem _ hw))) (hat w hw)
  have hk' : (Cond.classLink own ik cls).before args s' = true := vx_ot_at hW0 hvm.symm (hgood _ List.mem_cons_self) hk
  have hini' : (Cond.initialized cls).before args s' = true := vx_ot_at hW0 hvm.symm (hgood _ (List.mem_cons_of_mem _ List.mem_cons_self)) hini
  have hU' : vx_Zq Bundle.tN "UNASSIGNED_STACK" Bundle.steD A s' s'.heap := by rw [hhp]; exact vx_Zq.moved hW0.alike (hU.kept hS.2.1)
  have hN' : vx_Zq Bundle.tN "SUPPRESSED_SENTINEL" Bundle.listD A s' s'.heap := by rw [hhp]; exact vx_Zq.moved hW0.alike (hN.kept hS.2.1)
  have h : ∀ w ∈ Bundle.ownAtoms own ic cls names, w.before args s' = true := vx_own hat' (vx_isRefq hU'.1) (vx_isRefq hN'.1) hU'.2.word hN'.2.word
  have hown' : s'.vm.findClass own = some m.cls := by rw [hvm]; exact hown
  have hins : (Cond.instantiable cls 6).before args s' = true := h _ (by simp [Bundle.ownAtoms])
  obtain ⟨vm₁, cX, kX, hfX, hkX, -, -, X₁, st1⟩ := Y.newCold hexec (own := own) (C := cls) (index := ik) (n := 6) hown' hk' hins hini'
    (g := F0 m pc ls rest) rfl (by rw [hb]; exact d0) (Nat.le_refl _) (Nat.le_refl _)
  generalize hT1 : (T.setVm vm₁).pushCell { cls := cX, slots := kX.instanceTypes.map defaultValue, vm := .none } = T1 at X₁ st1
  have hcat : (Value.ref T.heap.size).category = 1 := rfl
  have hcellA : T1.heap[T.heap.size]? = some (freshCell cX kX) := by rw [← hT1]; exact State.heap_pushCell_size _ _
  have d3' : decode c.code (pc + 3) = .ok (.dup, 1) := by rw [hb]; exact d3
  have d4' : decode c.code (pc + 4) = .ok (.ldc is, 2) := by rw [hb]; exact d4
  have hstr' : vk_R own is text sa s' := vk_R.warm hW0 hstr
  obtain ⟨V, ce, L, Z, hL, hlt, hcl9, hvm9, st⟩ := vx_ctorMadeS X₁ hexec htr (own := own) (cls := cls) (names := names) (ic := ic) hown' hcls hnames h (fun x hx => nomatch hx) hfX hkX hcellA (by rw [hhp]; exact Nat.le_refl _) (msg := .ref sa) rfl
    (g := { method := m, pc := pc + 6, locals := ls, stack := .ref sa :: .ref T.heap.size :: .ref T.heap.size :: rest, locked := none }) rfl hsize (rest := rest) rfl
    (by rw [hb]; exact d6) hRframes (by simp only [List.map_cons, List.sum_cons, hcat]; omega)
  have Z0 := Stand.forget (locs := []) Z (fun y hy => by rw [hL y hy, hhp]; exact Nat.le_refl _)
  obtain ⟨f1, f2⟩ := vx_frame Z0.same
  rw [hhp] at f1 f2
  have hcid : ce.cls = D.1 ci := by
    rw [hcl9]
    have h1 := (hK.1 ci _ hc).2.1
    rw [hvm] at hfX
    exact Option.some.inj (hfX.symm.trans h1)
  have hh : (V.setCell T.heap.size ce).heap[T.heap.size]? = some ce := heapAt_setCell_self (s := V) ce hlt
  subst hA'
  have X5 := vx_back9 X Y Z0
  have X6 : Stand p l e R s m args below meth c (V.setCell T.heap.size ce) locs (cells + 1) (slots + 6) := { X5 with same := X5.same.mono (by omega) (by omega) }
  have hk9 : ∀ (k : Nat) (x : Nat × va_E), ws[k]? = some x → (V.setCell T.heap.size ce).heap[x.1]? = T.heap[x.1]? := fun k x hx => f2 x.1 ((hP k x hx).lt) (fun z hz => nomatch hz)
  obtain ⟨t, a1, b1⟩ := kk T.heap.size (V.setCell T.heap.size ce).heap ((hP.kept hk9).app (fun k x hx => by
      have hz : k < 1 := (List.getElem?_eq_some_iff.mp hx).1
      rw [show k = 0 by omega] at hx
      cases hx
      exact ⟨_, hc, ce, hh, hcid, hvm9, fun k hk => absurd hk (Nat.not_lt_zero k)⟩)) (hD.push hP rfl (hA _ hS.1)) ⟨Nat.le_trans hS.1 f1, fun q h1 h2 => (f2 q (Nat.lt_of_lt_of_le h1 hS.1) (fun z hz => nomatch hz)).trans (hS.2.1 q h1 h2), hS.2.2⟩ _ rfl X6
  refine ⟨t, st1 _ ?_, b1⟩
  show Steps p.tables e below (T1.setTop { method := m, pc := pc + 3, locals := ls, stack := .ref T.heap.size :: rest, locked := none }) _
  jvm_step X₁.here [X₁.here.top, hexec, d3', Value.category]
  exact X₁.ldcString hexec (own := own) (text := text) (index := is) (a := sa) hown' hstr'.1 hstr'.2
    (g := { method := m, pc := pc + 4, locals := ls, stack := .ref T.heap.size :: .ref T.heap.size :: rest, locked := none }) rfl d4' _ (st _ a1)
/-- 'new E()' that isn't thrown at once: the object goes on the stack -/
theorem vx_make0 {cc : ByteArray} {pc : Nat} (hexec : p.tables.exec = Jvm.exec) (hb : c.code = cc) (hl : l.stackTraces = false) {own cls : String} {names : List String} {ik ic ci : Nat} {A : Nat → Prop} {T0 : u_T}
    (hown : s.vm.findClass own = some m.cls) (hcls : Bundle.fit cls = true) (hnames : ∀ n ∈ names, Bundle.fit n = true)
    (hk : (Cond.classLink own ik cls).before args s = true) (hini : (Cond.initialized cls).before args s = true) (hat : ∀ w ∈ vx_at0 own ic cls names, w.before args s = true)
    (hgood : ∀ w ∈ Cond.classLink own ik cls :: Cond.initialized cls :: vx_at0 own ic cls names, vx_ot w = true)
    (hU : vx_Zq Bundle.tN "UNASSIGNED_STACK" Bundle.steD A s s.heap) (hN : vx_Zq Bundle.tN "SUPPRESSED_SENTINEL" Bundle.listD A s s.heap) (hS : va_S A s.heap H locs) (hsize : ls.size = c.maxLocals)
    (d0 : decode cc pc = .ok (.new ik, 3)) (d3 : decode cc (pc + 3) = .ok (.dup, 1)) (d4 : decode cc (pc + 4) = .ok (.invokespecial ic, 3))
    (hK : va_K D cl tys s) (hP : va_P D cl ws H) (hD : va_D A ws) (hA : ∀ q, s.heap.size ≤ q → A q) (hc : cl[ci]? = some (cls, T0, 0))
    (hRframes : names.length + 3 < R.frames) (hRlocals : (rest.map fun v => v.category).sum + (13 * (names.length + 1) + 42) ≤ R.locals) (hRcells : cells + 1 ≤ R.cells) (hRslots : slots + 6 ≤ R.slots)
    (kk : ∀ (q : Nat) (H1 : Heap), va_P D cl (ws ++ [(q, .inr (ci, []))]) H1 → va_D A (ws ++ [(q, .inr (ci, []))]) → va_S A s.heap H1 locs → W p l e R s m args below meth c H1 locs (cells + 1) (slots + 6) Q (F0 m (pc + 7) ls (.ref q :: rest))) :
    W p l e R s m args below meth c H locs cells slots Q (F0 m pc ls rest) := by
  intro T hT X
  subst hT
  have htr : e.platform.stackTraces = false := (show e.platform.stackTraces = l.stackTraces by rw [X.admits.platform]).trans hl
  have Y := vx_rebase X (R' := { frames := R.frames, locals := R.locals, cells := 1, slots := 6 }) (Nat.le_refl _) (Nat.le_refl _) hRcells hRslots
  obtain ⟨s', hA'⟩ : ∃ z, z = (T.setVm s.vm).setFrames (.invoking m args :: below) := ⟨_, rfl⟩
  rw [← hA'] at Y
  have hvm : s'.vm = s.vm := by rw [hA']; rfl
  have hhp : s'.heap = T.heap := by rw [hA']; rfl
  have hW0 : s.WarmedH s'.vm := by rw [hvm]; exact State.WarmedH.refl s
  have hat' : ∀ w ∈ vx_at0 own ic cls names, w.before args s' = true := fun w hw => vx_ot_at hW0 hvm.symm (hgood w (List.mem_cons_of_mem _ (List.mem_cons_of_mem _ hw))) (hat w hw)
  have hk' : (Cond.classLink own ik cls).before args s' = true := vx_ot_at hW0 hvm.symm (hgood _ List.mem_cons_self) hk
  have hini' : (Cond.initialized cls).before args s' = true := vx_ot_at hW0 hvm.symm (hgood _ (List.mem_cons_of_mem _ List.mem_cons_self)) hini
  have hU' : vx_Zq Bundle.tN "UNASSIGNED_STACK" Bundle.steD A s' s'.heap := by rw [hhp]; exact vx_Zq.moved hW0.alike (hU.kept hS.2.1)
  have hN' : vx_Zq Bundle.tN "SUPPRESSED_SENTINEL" Bundle.listD A s' s'.heap := by rw [hhp]; exact vx_Zq.moved hW0.alike (hN.kept hS.2.1)
  have h : ∀ w ∈ Bundle.ownAtoms0 own ic cls names, w.before args s' = true := vx_own hat' (vx_isRefq hU'.1) (vx_isRefq hN'.1) hU'.2.word hN'.2.word
  have hown' : s'.vm.findClass own = some m.cls := by rw [hvm]; exact hown
  have hins : (Cond.instantiable cls 6).before args s' = true := h _ (by simp [Bundle.ownAtoms0])
  obtain ⟨vm₁, cX, kX, hfX, hkX, -, -, X₁, st1⟩ := Y.newCold hexec (own := own) (C := cls) (index := ik) (n := 6) hown' hk' hins hini'
    (g := F0 m pc ls rest) rfl (by rw [hb]; exact d0) (Nat.le_refl _) (Nat.le_refl _)
  generalize hT1 : (T.setVm vm₁).pushCell { cls := cX, slots := kX.instanceTypes.map defaultValue, vm := .none } = T1 at X₁ st1
  have hcat : (Value.ref T.heap.size).category = 1 := rfl
  have hcellA : T1.heap[T.heap.size]? = some (freshCell cX kX) := by rw [← hT1]; exact State.heap_pushCell_size _ _
  have d3' : decode c.code (pc + 3) = .ok (.dup, 1) := by rw [hb]; exact d3
  obtain ⟨V, ce, L, Z, hL, hlt, hcl9, hvm9, st⟩ := vx_ctorMade0 X₁ hexec htr (own := own) (cls := cls) (names := names) (ic := ic) hown' hcls hnames h (fun x hx => nomatch hx) hfX hkX hcellA (by rw [hhp]; exact Nat.le_refl _)
    (g := { method := m, pc := pc + 4, locals := ls, stack := .ref T.heap.size :: .ref T.heap.size :: rest, locked := none }) rfl hsize (rest := rest) rfl
    (by rw [hb]; exact d4) hRframes (by simp only [List.map_cons, List.sum_cons, hcat]; omega)
  have Z0 := Stand.forget (locs := []) Z (fun y hy => by rw [hL y hy, hhp]; exact Nat.le_refl _)
  obtain ⟨f1, f2⟩ := vx_frame Z0.same
  rw [hhp] at f1 f2
  have hcid : ce.cls = D.1 ci := by
    rw [hcl9]
    have h1 := (hK.1 ci _ hc).2.1
    rw [hvm] at hfX
    exact Option.some.inj (hfX.symm.trans h1)
  have hh : (V.setCell T.heap.size ce).heap[T.heap.size]? = some ce := heapAt_setCell_self (s := V) ce hlt
  subst hA'
  have X5 := vx_back9 X Y Z0
  have X6 : Stand p l e R s m args below meth c (V.setCell T.heap.size ce) locs (cells + 1) (slots + 6) := { X5 with same := X5.same.mono (by omega) (by omega) }
  have hk9 : ∀ (k : Nat) (x : Nat × va_E), ws[k]? = some x → (V.setCell T.heap.size ce).heap[x.1]? = T.heap[x.1]? := fun k x hx => f2 x.1 ((hP k x hx).lt) (fun z hz => nomatch hz)
  obtain ⟨t, a1, b1⟩ := kk T.heap.size (V.setCell T.heap.size ce).heap ((hP.kept hk9).app (fun k x hx => by
      have hz : k < 1 := (List.getElem?_eq_some_iff.mp hx).1
      rw [show k = 0 by omega] at hx
      cases hx
      exact ⟨_, hc, ce, hh, hcid, hvm9, fun k hk => absurd hk (Nat.not_lt_zero k)⟩)) (hD.push hP rfl (hA _ hS.1)) ⟨Nat.le_trans hS.1 f1, fun q h1 h2 => (f2 q (Nat.lt_of_lt_of_le h1 hS.1) (fun z hz => nomatch hz)).trans (hS.2.1 q h1 h2), hS.2.2⟩ _ rfl X6
  refine ⟨t, st1 _ ?_, b1⟩
  show Steps p.tables e below (T1.setTop { method := m, pc := pc + 3, locals := ls, stack := .ref T.heap.size :: rest, locked := none }) _
  jvm_step X₁.here [X₁.here.top, hexec, d3', Value.category]
  exact st _ a1
/-- 'throw x' of an object that was made before -/
theorem vx_athrow {cc : ByteArray} {pc : Nat} (hexec : p.tables.exec = Jvm.exec) (hb : c.code = cc) {q : Addr} (hdg : decode cc pc = .ok (.athrow, 1)) (k : vx_W p l e R s m args below meth c H locs cells slots Q (F0 m pc ls rest) q) : W p l e R s m args below meth c H locs cells slots Q (F0 m pc ls (.ref q :: rest)) := by
  intro T hT X
  obtain ⟨t, st, hq⟩ := k T hT X
  refine ⟨t, ?_, hq⟩
  have hdg' : decode c.code pc = .ok (.athrow, 1) := by rw [hb]; exact hdg
  jvm_step X.here [X.here.top, hexec, hdg', athrow.wp_sem]
  exact st
end VXK2
/-! ===== END ===== -/
/-! ===== BEGIN a constructor that throws (launches without stack traces) ===== -/
section VXIA
variable {p : Program} {l : Launch} {e : Env} {R : Room} {s : State} {m : MethodId} {args : Array Value} {below : List Frame} {meth : Method} {c : Code} {T : State} {locs : List Loc} {cells slots : Nat}
theorem vx_callI (X : Stand p l e R s m args below meth c T locs cells slots) (hexec : p.tables.exec = Jvm.exec) {own : String} {index : Nat} {y : MethodName} {bytes : ByteArray} {maxL : Nat}
    (hown : s.vm.findClass own = some m.cls) (hy1 : y.name = "<init>") (hlink : (Cond.methodLink own index y).before args s = true) (hinst : (Cond.instanceMethod y).before args s = true)
    (hcode : (Cond.code y bytes maxL none).before args s = true) (hy : y.cls ≠ "java/lang/invoke/MethodHandle" ∧ y.cls ≠ "java/lang/invoke/VarHandle")
    {W9 : Nat} {Pre : Pt → Array Value → Prop} {Post : Pt → Array Value → Option Value → Pt → Prop} {PostX : Pt → Array Value → Addr → Pt → Prop} (hK : vx_Back l R p e below s args y 3 W9 Pre Post PostX)
    {g : JFrame} (hg : g.method = m) (hsize : g.locals.size = c.maxLocals) {a : Addr} {argsL rest : List Value} (hlen : ∀ sig, parseMethodDescriptor y.desc = some sig → argsL.length = sig.parameters.length)
    (hstack : g.stack = argsL.reverse ++ .ref a :: rest) (hW : 2 * g.monitorRoom + (rest.map fun v => v.category).sum ≤ W9) (hdg : decode c.code g.pc = .ok (.invokespecial index, 3))
    (hpre : ∀ vm₁, s.WarmedH vm₁ → Pre ⟨T.setVm vm₁, locs, cells, slots⟩ (Value.ref a :: argsL).toArray) :
    (∃ (v : Option Value) (vm₁ : Vm) (B : Pt), s.WarmedH vm₁ ∧ Stand p l e R s m args below meth c B.U B.locs B.cells B.slots ∧ Post ⟨T.setVm vm₁, locs, cells, slots⟩ (Value.ref a :: argsL).toArray v B ∧
      ∀ target, Steps p.tables e below (B.U.setTop { g with pc := g.pc + 3, stack := v.toList ++ rest }) target → Steps p.tables e below (T.setTop g) target) ∨
    (∃ (q : Addr) (vm₁ : Vm) (B : Pt), s.WarmedH vm₁ ∧ Stand p l e R s m args below meth c B.U B.locs B.cells B.slots ∧ PostX ⟨T.setVm vm₁, locs, cells, slots⟩ (Value.ref a :: argsL).toArray q B ∧
      Steps p.tables e below (T.setTop g) ((B.U.setTop { g with stack := rest }).pushFrame (.throwing q))) := by
  subst hg
  have hpl : e.platform.magicAccessors = ({} : Platform).magicAccessors := by rw [X.admits.platform]
  obtain ⟨mk, methM, cM, kP, vm₁, hnamed, hmethM, hcodeM, -, hlocalsM, -, hkP, -, hW₁, hstep₁⟩ := Steps.initColdArgs (e := e) X.here hexec X.warmed hpl hown hy1 hy hlink hinst hcode (f := g) rfl hlen hstack hdg
  have X₁ := X.noted hW₁
  rcases hK g.method meth c ⟨T.setVm vm₁, locs, cells, slots⟩ { g with stack := rest } (.invokespecial index) mk (Value.ref a :: argsL).toArray X₁ rfl hsize hdg hW (X₁.named hnamed) (hpre vm₁ X₁.warmed) with ⟨v, B, X', hpost, hsteps⟩ | ⟨q, B, X', hpost, hsteps⟩
  · exact Or.inl ⟨v, vm₁, B, X₁.warmed, X', hpost, fun target h => hstep₁ _ fun acts => by rw [doInvoke_state]; exact hsteps.trans h⟩
  · exact Or.inr ⟨q, vm₁, B, X₁.warmed, X', hpost, hstep₁ _ fun acts => by rw [doInvoke_state]; exact hsteps⟩
end VXIA
section VXIB
variable {p : Program} {l : Launch} {e : Env} {R : Room} {s : State} {m : MethodId} {args : Array Value} {below : List Frame} {meth : Method} {c : Code} {H : Heap} {locs : List Loc} {cells slots : Nat}
variable {y : MethodName} {bytes cc : ByteArray} {maxL nL mc ms n index : Nat} {ret : Option FieldType} {ws : List Cond} {rm : Room} {Pc : Array Value → State → Prop} {Qc : Array Value → State → Outcome → State → Prop} {XC : String → State → State → Prop} {free : Addr → Prop} {Ts : List Cond} {own C : String} {b : Addr} {As rest : List Value} {g : JFrame}
theorem vx_runI (S : CallFix p m c cc nL s args Ts own) (hM : vx_Met l y ws rm Pc Qc XC mc ms free) (cw : CallB R s args own index y bytes maxL none ws rm mc ms n ∧ y.name = "<init>" ∧ (Cond.instanceMethod y).before args s = true) (hp : PreS s H Pc (.ref b :: As))
    (hg : g.method = m) (hn : As.length = n) (hsize : g.locals.size = nL) (hstack : g.stack = As.reverse ++ .ref b :: rest) (hW : 2 * g.monitorRoom + (rest.map fun v => v.category).sum ≤ 8) (hdg : decode cc g.pc = .ok (.invokespecial index, 3)) (hf : cells + mc ≤ R.cells ∧ slots + ms ≤ R.slots) :
    vx_Run p l e R s m args below meth c H locs cells slots mc ms g rest (Qc (Value.ref b :: As).toArray) XC free := by
  have hK : vx_Back l R p e below s args y 3 8 (PreOf R mc ms Pc) (PostOf Qc mc ms free) (vx_Post XC mc ms free) := vx_callBack cw.1 hM hp.1
  obtain ⟨⟨-, -, -, -, -, -, hcode, -, hy, hlen, hl⟩, hy1, hin⟩ := cw
  obtain ⟨hx, hb, hml, ho, -⟩ := S
  have hPc := hp.2
  intro T hT X
  rcases vx_callI X hx (bytes := bytes) (maxL := maxL) ho hy1 hl hin hcode hy hK hg (hsize.trans hml.symm) (a := b) (argsL := As) (rest := rest) (fun sig h => hn.trans (hlen sig h)) hstack hW (by rw [hb]; exact hdg)
    (fun vm₁ hW₁ => ⟨hf.1, hf.2, hPc (T.setVm vm₁) hT hW₁⟩) with ⟨v, vm₁, ⟨U', l2, c2, s2⟩, hW₁, X', ⟨g', mk, t, L, e1, e2, hq, h1, hL, h2, h3⟩, st⟩ | ⟨q, vm₁, ⟨U', l2, c2, s2⟩, hW₁, X', ⟨g', mk, t, L, E, ce, e1, e2, hq, hce, hcv, hcl, h1, hL, h2, h3⟩, st⟩
  · dsimp only [Pt.U, Pt.locs, Pt.cells, Pt.slots] at X' e1 e2 h1 h2 h3 st
    subst h1; subst h2; subst h3
    exact Or.inl ⟨v, (T.setVm vm₁).calling g' mk (Value.ref b :: As).toArray, t, U', L, hT, X', hL, e1, e2, hq, st⟩
  · dsimp only [Pt.U, Pt.locs, Pt.cells, Pt.slots] at X' e1 e2 h1 h2 h3 st hcl
    subst h1; subst h2; subst h3
    exact Or.inr ⟨q, (T.setVm vm₁).calling g' mk (Value.ref b :: As).toArray, t, U', L, E, ce, hT, X', hL, e1, e2, hq, hce, hcv, vx_cls hW₁ hcl, st⟩
end VXIB
/-! ===== END ===== -/
/-! ===== BEGIN a private constructor of a nest mate that throws ===== -/
section VXIC
variable {p : Program} {l : Launch} {e : Env} {R : Room} {s : State} {m : MethodId} {args : Array Value} {below : List Frame} {meth : Method} {c : Code} {T : State} {locs : List Loc} {cells slots : Nat}
theorem vx_callIN (X : Stand p l e R s m args below meth c T locs cells slots) (hexec : p.tables.exec = Jvm.exec) {own : String} {index : Nat} {host : String} {y : MethodName} {bytes : ByteArray} {maxL : Nat}
    (hown : s.vm.findClass own = some m.cls) (hy1 : y.name = "<init>") (hlink : (Cond.methodLinkNest own index y host).before args s = true) (hinst : (Cond.instanceMethod y).before args s = true)
    (hcode : (Cond.code y bytes maxL none).before args s = true) (hy : y.cls ≠ "java/lang/invoke/MethodHandle" ∧ y.cls ≠ "java/lang/invoke/VarHandle")
    {W9 : Nat} {Pre : Pt → Array Value → Prop} {Post : Pt → Array Value → Option Value → Pt → Prop} {PostX : Pt → Array Value → Addr → Pt → Prop} (hK : vx_Back l R p e below s args y 3 W9 Pre Post PostX)
    {g : JFrame} (hg : g.method = m) (hsize : g.locals.size = c.maxLocals) {a : Addr} {argsL rest : List Value} (hlen : ∀ sig, parseMethodDescriptor y.desc = some sig → argsL.length = sig.parameters.length)
    (hstack : g.stack = argsL.reverse ++ .ref a :: rest) (hW : 2 * g.monitorRoom + (rest.map fun v => v.category).sum ≤ W9) (hdg : decode c.code g.pc = .ok (.invokespecial index, 3))
    (hpre : ∀ vm₁, s.WarmedH vm₁ → Pre ⟨T.setVm vm₁, locs, cells, slots⟩ (Value.ref a :: argsL).toArray) :
    (∃ (v : Option Value) (vm₁ : Vm) (B : Pt), s.WarmedH vm₁ ∧ Stand p l e R s m args below meth c B.U B.locs B.cells B.slots ∧ Post ⟨T.setVm vm₁, locs, cells, slots⟩ (Value.ref a :: argsL).toArray v B ∧
      ∀ target, Steps p.tables e below (B.U.setTop { g with pc := g.pc + 3, stack := v.toList ++ rest }) target → Steps p.tables e below (T.setTop g) target) ∨
    (∃ (q : Addr) (vm₁ : Vm) (B : Pt), s.WarmedH vm₁ ∧ Stand p l e R s m args below meth c B.U B.locs B.cells B.slots ∧ PostX ⟨T.setVm vm₁, locs, cells, slots⟩ (Value.ref a :: argsL).toArray q B ∧
      Steps p.tables e below (T.setTop g) ((B.U.setTop { g with stack := rest }).pushFrame (.throwing q))) := by
  subst hg
  have hpl : e.platform.magicAccessors = ({} : Platform).magicAccessors := by rw [X.admits.platform]
  obtain ⟨mk, methM, cM, kP, vm₁, hnamed, hmethM, hcodeM, -, hlocalsM, -, hkP, -, hW₁, hstep₁⟩ := Steps.initColdArgsNest (e := e) X.here hexec X.warmed hpl hown hy1 hy hlink hinst hcode (f := g) rfl hlen hstack hdg
  have X₁ := X.noted hW₁
  rcases hK g.method meth c ⟨T.setVm vm₁, locs, cells, slots⟩ { g with stack := rest } (.invokespecial index) mk (Value.ref a :: argsL).toArray X₁ rfl hsize hdg hW (X₁.named hnamed) (hpre vm₁ X₁.warmed) with ⟨v, B, X', hpost, hsteps⟩ | ⟨q, B, X', hpost, hsteps⟩
  · exact Or.inl ⟨v, vm₁, B, X₁.warmed, X', hpost, fun target h => hstep₁ _ fun acts => by rw [doInvoke_state]; exact hsteps.trans h⟩
  · exact Or.inr ⟨q, vm₁, B, X₁.warmed, X', hpost, hstep₁ _ fun acts => by rw [doInvoke_state]; exact hsteps⟩
end VXIC
section VXID
variable {p : Program} {l : Launch} {e : Env} {R : Room} {s : State} {m : MethodId} {args : Array Value} {below : List Frame} {meth : Method} {c : Code} {H : Heap} {locs : List Loc} {cells slots : Nat}
theorem vx_runIN {y : MethodName} {bytes cc : ByteArray} {maxL nL mc ms n index : Nat} {ws : List Cond} {rm : Room} {Pc : Array Value → State → Prop} {Qc : Array Value → State → Outcome → State → Prop} {XC : String → State → State → Prop} {free : Addr → Prop} {Ts : List Cond} {own host : String} {b : Addr} {As rest : List Value} {g : JFrame}
    (S : CallFix p m c cc nL s args Ts own) (hM : vx_Met l y ws rm Pc Qc XC mc ms free) (cw : va_CN R s args own index y host bytes maxL none ws rm mc ms n ∧ y.name = "<init>" ∧ (Cond.instanceMethod y).before args s = true) (hp : PreS s H Pc (.ref b :: As))
    (hg : g.method = m) (hn : As.length = n) (hsize : g.locals.size = nL) (hstack : g.stack = As.reverse ++ .ref b :: rest) (hW : 2 * g.monitorRoom + (rest.map fun v => v.category).sum ≤ 8) (hdg : decode cc g.pc = .ok (.invokespecial index, 3)) (hf : cells + mc ≤ R.cells ∧ slots + ms ≤ R.slots) :
    vx_Run p l e R s m args below meth c H locs cells slots mc ms g rest (Qc (Value.ref b :: As).toArray) XC free := by
  obtain ⟨⟨⟨hrc, hrs, hfr, hlo, hws, hcw⟩, hcode, hini, hy, hlen, hl⟩, hx1, hx2⟩ := cw
  have hK : vx_Back l R p e below s args y 3 8 (PreOf R mc ms Pc) (PostOf Qc mc ms free) (vx_Post XC mc ms free) := vx_back (bytes := bytes) (maxL := maxL) (ret := none) hM hp.1 hrc hrs hfr hlo hws hcw (fun a' U hW => word_at hW (Or.inl (by first | rfl | simp [Cond.onTables, Cond.keeps, Cond.steady])) hini)
  obtain ⟨hx, hb, hml, ho, -⟩ := S
  have hPc := hp.2
  intro T hT X
  rcases vx_callIN X hx (bytes := bytes) (maxL := maxL) ho hx1 hl hx2 hcode hy hK hg (hsize.trans hml.symm) (a := b) (argsL := As) (rest := rest) (fun sig h => hn.trans (hlen sig h)) hstack hW (by rw [hb]; exact hdg)
    (fun vm₁ hW₁ => ⟨hf.1, hf.2, hPc (T.setVm vm₁) hT hW₁⟩) with ⟨v, vm₁, ⟨U', l2, c2, s2⟩, hW₁, X', ⟨g', mk, t, L, e1, e2, hq, h1, hL, h2, h3⟩, st⟩ | ⟨q, vm₁, ⟨U', l2, c2, s2⟩, hW₁, X', ⟨g', mk, t, L, E, ce, e1, e2, hq, hce, hcv, hcl, h1, hL, h2, h3⟩, st⟩
  · dsimp only [Pt.U, Pt.locs, Pt.cells, Pt.slots] at X' e1 e2 h1 h2 h3 st
    subst h1; subst h2; subst h3
    exact Or.inl ⟨v, (T.setVm vm₁).calling g' mk (Value.ref b :: As).toArray, t, U', L, hT, X', hL, e1, e2, hq, st⟩
  · dsimp only [Pt.U, Pt.locs, Pt.cells, Pt.slots] at X' e1 e2 h1 h2 h3 st hcl
    subst h1; subst h2; subst h3
    exact Or.inr ⟨q, (T.setVm vm₁).calling g' mk (Value.ref b :: As).toArray, t, U', L, E, ce, hT, X', hL, e1, e2, hq, hce, hcv, vx_cls hW₁ hcl, st⟩
end VXID
/-! ===== END ===== -/
/-! ===== BEGIN a method of a class above, found by the receiver, that may throw (follows va_callVU, va_runU of this kit) ===== -/
section
variable {p : Program} {l : Launch} {e : Env} {R : Room} {s : State} {m : MethodId} {args : Array Value} {below : List Frame} {meth : Method} {c : Code} {H : Heap} {locs : List Loc} {cells slots : Nat}
theorem vx_callVU {T : State} {locs : List Loc} {cells slots : Nat} (X : Stand p l e R s m args below meth c T locs cells slots) (hexec : p.tables.exec = Jvm.exec) {own C owner : String} {index : Nat} {x y : MethodName} {bytes : ByteArray} {maxL : Nat} {ret : Option FieldType}
    (hown : s.vm.findClass own = some m.cls) (hlink : (Cond.methodLink own index x).before args s = true) (hsame : (Cond.sameMethod x.cls owner x.name x.desc).before args s = true)
    (hd0 : va_Decl s ⟨owner, x.name, x.desc⟩) (howner : owner ≠ "java/lang/invoke/MethodHandle" ∧ owner ≠ "java/lang/invoke/VarHandle")
    (hsel : (Cond.selects C x y).before args s = true) (hinst : (Cond.instanceMethod y).before args s = true) (hcode : (Cond.code y bytes maxL ret).before args s = true)
    {W : Nat} {Pre : Pt → Array Value → Prop} {Post : Pt → Array Value → Option Value → Pt → Prop} {PostX : Pt → Array Value → Addr → Pt → Prop} (hK : vx_Back l R p e below s args y 3 W Pre Post PostX)
    {b : Addr} {cellB : Cell} (hcell : T.heap[b]? = some cellB) (hobj : cellB.vm.isStatics = false) (hcls : s.vm.findClass C = some cellB.cls)
    {g : JFrame} (hg : g.method = m) (hsize : g.locals.size = c.maxLocals) {argsL rest : List Value} (hlen : ∀ sig, parseMethodDescriptor x.desc = some sig → argsL.length = sig.parameters.length)
    (hstack : g.stack = argsL.reverse ++ .ref b :: rest) (hW : 2 * g.monitorRoom + (rest.map fun v => v.category).sum ≤ W) (hdg : decode c.code g.pc = .ok (.invokevirtual index, 3))
    (hpre : ∀ vm₁, s.WarmedH vm₁ → Pre ⟨T.setVm vm₁, locs, cells, slots⟩ (Value.ref b :: argsL).toArray) :
    (∃ (v : Option Value) (vm₁ : Vm) (B : Pt), s.WarmedH vm₁ ∧ Stand p l e R s m args below meth c B.U B.locs B.cells B.slots ∧ Post ⟨T.setVm vm₁, locs, cells, slots⟩ (Value.ref b :: argsL).toArray v B ∧
      ∀ target, Steps p.tables e below (B.U.setTop { g with pc := g.pc + 3, stack := v.toList ++ rest }) target → Steps p.tables e below (T.setTop g) target) ∨
    (∃ (q : Addr) (vm₁ : Vm) (B : Pt), s.WarmedH vm₁ ∧ Stand p l e R s m args below meth c B.U B.locs B.cells B.slots ∧ PostX ⟨T.setVm vm₁, locs, cells, slots⟩ (Value.ref b :: argsL).toArray q B ∧
      Steps p.tables e below (T.setTop g) ((B.U.setTop { g with stack := rest }).pushFrame (.throwing q))) := by
  obtain ⟨r0, r, hn, hrm, hstR, hsigR⟩ := hd0
  obtain ⟨cn, ck, r1, hcn, hck, hni, hf, hn1⟩ := Cond.sameMethod_found hsame
  cases hn.symm.trans hn1
  obtain ⟨mk, methM, hnamed, hmethM, -, habM⟩ := Cond.instanceMethod_spec hinst
  obtain ⟨c2, r2, m2, q1, q2, q3, q4, kP, hkP, hkPi⟩ := Cond.selects_spec hsel
  cases hcls.symm.trans q1
  cases hf.symm.trans q2
  cases hnamed.symm.trans q3
  have hselP : selectMethod e.platform s.vm cellB.cls r0 = .method mk := by rw [Launch.admits_selectMethod X.admits]; exact q4
  obtain ⟨vm₁, X₁, hstep₁⟩ := X.invokevirtualUp hexec hown hlink hsame howner hn hrm hstR (a := b) (cell := cellB) hcell
    (fun z h => by rw [h] at hobj; cases hobj) hselP hmethM habM hkP hkPi (g := g) hg (argsL := argsL) (rest := rest) (hlen _ hsigR) hstack hdg
  rcases hK m meth c ⟨T.setVm vm₁, locs, cells, slots⟩ { g with stack := rest } (.invokevirtual index) mk (Value.ref b :: argsL).toArray X₁ hg hsize hdg hW (X₁.named hnamed) (hpre vm₁ X₁.warmed) with ⟨v, B, X', hpost, hsteps⟩ | ⟨q, B, X', hpost, hsteps⟩
  · exact Or.inl ⟨v, vm₁, B, X₁.warmed, X', hpost, fun target h => hstep₁ _ fun acts => by rw [doInvoke_state]; exact hsteps.trans h⟩
  · exact Or.inr ⟨q, vm₁, B, X₁.warmed, X', hpost, hstep₁ _ fun acts => by rw [doInvoke_state]; exact hsteps⟩
theorem vx_runU {x y : MethodName} {bytes cc : ByteArray} {maxL nL mc ms n index : Nat} {ret : Option FieldType} {ws : List Cond} {rm : Room} {Pc : Array Value → State → Prop} {Qc : Array Value → State → Outcome → State → Prop} {XC : String → State → State → Prop} {free : Addr → Prop} {Ts : List Cond} {own C owner : String} {b : Addr} {As rest : List Value} {g : JFrame}
    (S : CallFix p m c cc nL s args Ts own) (hM : vx_Met l y ws rm Pc Qc XC mc ms free) (cw : va_CU R s args own C owner index x y bytes maxL ret ws rm mc ms n) (hp : PreV s H C b Pc As)
    (hg : g.method = m) (hn : As.length = n) (hsize : g.locals.size = nL) (hstack : g.stack = As.reverse ++ .ref b :: rest) (hW : 2 * g.monitorRoom + (rest.map fun v => v.category).sum ≤ 8) (hdg : decode cc g.pc = .ok (.invokevirtual index, 3)) (hf : cells + mc ≤ R.cells ∧ slots + ms ≤ R.slots) :
    vx_Run p l e R s m args below meth c H locs cells slots mc ms g rest (Qc (Value.ref b :: As).toArray) XC free := by
  obtain ⟨hrc, hrs, hfr, hlo, hws, hcw⟩ := cw.back
  have hini := cw.init
  have hK : vx_Back l R p e below s args y 3 8 (PreOf R mc ms Pc) (PostOf Qc mc ms free) (vx_Post XC mc ms free) := vx_back (bytes := bytes) (maxL := maxL) (ret := ret) hM hp.1 hrc hrs hfr hlo hws hcw (fun a' U hW => word_at hW (Or.inl (by first | rfl | simp [Cond.onTables, Cond.keeps, Cond.steady])) hini)
  obtain ⟨hx, hb, hml, ho, -⟩ := S
  obtain ⟨-, ⟨cellB, hcB, hoB, hclB⟩, hPc⟩ := hp
  intro T hT X
  rcases vx_callVU X hx (C := C) (owner := owner) (bytes := bytes) (maxL := maxL) (ret := ret) ho cw.link cw.same cw.decl cw.notMH cw.sel cw.inst cw.code hK (by rw [hT]; exact hcB) hoB hclB hg (hsize.trans hml.symm) (argsL := As) (rest := rest) (fun sig h => hn.trans (cw.len sig h)) hstack hW (by rw [hb]; exact hdg)
    (fun vm₁ hW₁ => ⟨hf.1, hf.2, hPc (T.setVm vm₁) hT hW₁⟩) with ⟨v, vm₁, ⟨U', l2, c2, s2⟩, hW₁, X', ⟨g', mk, t, L, e1, e2, hq, h1, hL, h2, h3⟩, st⟩ | ⟨q, vm₁, ⟨U', l2, c2, s2⟩, hW₁, X', ⟨g', mk, t, L, E, ce, e1, e2, hq, hce, hcv, hcl, h1, hL, h2, h3⟩, st⟩
  · dsimp only [Pt.U, Pt.locs, Pt.cells, Pt.slots] at X' e1 e2 h1 h2 h3 st
    subst h1; subst h2; subst h3
    exact Or.inl ⟨v, (T.setVm vm₁).calling g' mk (Value.ref b :: As).toArray, t, U', L, hT, X', hL, e1, e2, hq, st⟩
  · dsimp only [Pt.U, Pt.locs, Pt.cells, Pt.slots] at X' e1 e2 h1 h2 h3 st hcl
    subst h1; subst h2; subst h3
    exact Or.inr ⟨q, (T.setVm vm₁).calling g' mk (Value.ref b :: As).toArray, t, U', L, E, ce, hT, X', hL, e1, e2, hq, hce, hcv, vx_cls hW₁ hcl, st⟩
end
/-! ===== END ===== -/
/-! ===== BEGIN super.m(..) that may throw (follows va_callSU, va_runSU) ===== -/
section
variable {p : Program} {l : Launch} {e : Env} {R : Room} {s : State} {m : MethodId} {args : Array Value} {below : List Frame} {meth : Method} {c : Code} {H : Heap} {locs : List Loc} {cells slots : Nat}
theorem vx_callSU {T : State} {locs : List Loc} {cells slots : Nat} (X : Stand p l e R s m args below meth c T locs cells slots) (hexec : p.tables.exec = Jvm.exec) {own : String} {index : Nat} {y : MethodName} {bytes : ByteArray} {maxL : Nat} {ret : Option FieldType}
    (hown : s.vm.findClass own = some m.cls) (hlink : (Cond.methodLink own index y).before args s = true) (hsame : (Cond.sameMethod y.cls y.cls y.name y.desc).before args s = true) (hsup : (Cond.superclass own y.cls).before args s = true)
    (hinst : (Cond.instanceMethod y).before args s = true) (hcode : (Cond.code y bytes maxL ret).before args s = true) (hno : y.name ≠ "<init>")
    {W : Nat} {Pre : Pt → Array Value → Prop} {Post : Pt → Array Value → Option Value → Pt → Prop} {PostX : Pt → Array Value → Addr → Pt → Prop} (hK : vx_Back l R p e below s args y 3 W Pre Post PostX)
    {b : Addr} {cellB : Cell} {kB : Class} (hcell : T.heap[b]? = some cellB) (hobj : cellB.vm.isStatics = false) (hkB : s.vm.classes[cellB.cls]? = some kB)
    {g : JFrame} (hg : g.method = m) (hsize : g.locals.size = c.maxLocals) {argsL rest : List Value} (hlen : ∀ sig, parseMethodDescriptor y.desc = some sig → argsL.length = sig.parameters.length)
    (hstack : g.stack = argsL.reverse ++ .ref b :: rest) (hW : 2 * g.monitorRoom + (rest.map fun v => v.category).sum ≤ W) (hdg : decode c.code g.pc = .ok (.invokespecial index, 3))
    (hpre : ∀ vm₁, s.WarmedH vm₁ → Pre ⟨T.setVm vm₁, locs, cells, slots⟩ (Value.ref b :: argsL).toArray) :
    (∃ (v : Option Value) (vm₁ : Vm) (B : Pt), s.WarmedH vm₁ ∧ Stand p l e R s m args below meth c B.U B.locs B.cells B.slots ∧ Post ⟨T.setVm vm₁, locs, cells, slots⟩ (Value.ref b :: argsL).toArray v B ∧
      ∀ target, Steps p.tables e below (B.U.setTop { g with pc := g.pc + 3, stack := v.toList ++ rest }) target → Steps p.tables e below (T.setTop g) target) ∨
    (∃ (q : Addr) (vm₁ : Vm) (B : Pt), s.WarmedH vm₁ ∧ Stand p l e R s m args below meth c B.U B.locs B.cells B.slots ∧ PostX ⟨T.setVm vm₁, locs, cells, slots⟩ (Value.ref b :: argsL).toArray q B ∧
      Steps p.tables e below (T.setTop g) ((B.U.setTop { g with stack := rest }).pushFrame (.throwing q))) := by
  obtain ⟨mk, methM, hnamed, hmethM, hstM, habM⟩ := Cond.instanceMethod_spec hinst
  obtain ⟨methM', cM, hmethM', -, -, -, -, -, -, hsigM⟩ := Cond.code_spec hnamed hcode
  cases hmethM.symm.trans hmethM'
  obtain ⟨ps, dk, kp, hps, hdk, hkp, hsuper, -, -, hnid⟩ := Cond.superclass_spec hown hsup
  have hn : s.methodNamed? ⟨y.cls, y.name, y.desc⟩ = some mk := hnamed
  have hpm : ps = mk.cls := Option.some.inj (hps.symm.trans (findClass_of_methodNamed hnamed))
  have hsub : s.vm.isSubclass ps mk.cls = true := by rw [hpm]; simp [Vm.isSubclass, Vm.isSubclassAux]
  obtain ⟨vm₁, X₁, hstep₁⟩ := X.invokespecialUp hexec hown hlink hsame hn hmethM hstM habM hno hdk hnid hps hsuper hsub (a := b) (cell := cellB) hcell
    (fun z h => by rw [h] at hobj; cases hobj) hkB (g := g) hg (argsL := argsL) (rest := rest) (hlen _ hsigM) hstack hdg
  rcases hK m meth c ⟨T.setVm vm₁, locs, cells, slots⟩ { g with stack := rest } (.invokespecial index) mk (Value.ref b :: argsL).toArray X₁ hg hsize hdg hW (X₁.named hnamed) (hpre vm₁ X₁.warmed) with ⟨v, B, X', hpost, hsteps⟩ | ⟨q, B, X', hpost, hsteps⟩
  · exact Or.inl ⟨v, vm₁, B, X₁.warmed, X', hpost, fun target h => hstep₁ _ (by rw [doInvoke_state]; exact hsteps.trans h)⟩
  · exact Or.inr ⟨q, vm₁, B, X₁.warmed, X', hpost, hstep₁ _ (by rw [doInvoke_state]; exact hsteps)⟩
theorem vx_runSU {y : MethodName} {bytes cc : ByteArray} {maxL nL mc ms n index : Nat} {ret : Option FieldType} {ws : List Cond} {rm : Room} {Pc : Array Value → State → Prop} {Qc : Array Value → State → Outcome → State → Prop} {XC : String → State → State → Prop} {free : Addr → Prop} {Ts : List Cond} {own C : String} {cC : ClassId} {b : Addr} {As rest : List Value} {g : JFrame}
    (hat : ClassAt s C cC) (S : CallFix p m c cc nL s args Ts own) (hM : vx_Met l y ws rm Pc Qc XC mc ms free) (cw : va_CS R s args own index y bytes maxL ret ws rm mc ms n) (hp : PreV s H C b Pc As)
    (hg : g.method = m) (hn : As.length = n) (hsize : g.locals.size = nL) (hstack : g.stack = As.reverse ++ .ref b :: rest) (hW : 2 * g.monitorRoom + (rest.map fun v => v.category).sum ≤ 8) (hdg : decode cc g.pc = .ok (.invokespecial index, 3)) (hf : cells + mc ≤ R.cells ∧ slots + ms ≤ R.slots) :
    vx_Run p l e R s m args below meth c H locs cells slots mc ms g rest (Qc (Value.ref b :: As).toArray) XC free := by
  obtain ⟨⟨hrc, hrs, hfr, hlo, hws, hcw⟩, hl1, hl2, hl3, hl4, hini, hcode, hno, hlen⟩ := cw
  have hK : vx_Back l R p e below s args y 3 8 (PreOf R mc ms Pc) (PostOf Qc mc ms free) (vx_Post XC mc ms free) := vx_back (bytes := bytes) (maxL := maxL) (ret := ret) hM hp.1 hrc hrs hfr hlo hws hcw (fun a' U hW => word_at hW (Or.inl (by first | rfl | simp [Cond.onTables, Cond.keeps, Cond.steady])) hini)
  obtain ⟨hx, hb, hml, ho, -⟩ := S
  obtain ⟨-, ⟨cellB, hcB, hoB, hclB⟩, hPc⟩ := hp
  obtain ⟨hfc, kB, hkB, -⟩ := hat
  cases hfc.symm.trans hclB
  intro T hT X
  rcases vx_callSU X hx (bytes := bytes) (maxL := maxL) (ret := ret) ho hl1 hl2 hl3 hl4 hcode hno hK (by rw [hT]; exact hcB) hoB hkB hg (hsize.trans hml.symm) (argsL := As) (rest := rest) (fun sig h => hn.trans (hlen sig h)) hstack hW (by rw [hb]; exact hdg)
    (fun vm₁ hW₁ => ⟨hf.1, hf.2, hPc (T.setVm vm₁) hT hW₁⟩) with ⟨v, vm₁, ⟨U', l2, c2, s2⟩, hW₁, X', ⟨g', mk, t, L, e1, e2, hq, h1, hL, h2, h3⟩, st⟩ | ⟨q, vm₁, ⟨U', l2, c2, s2⟩, hW₁, X', ⟨g', mk, t, L, E, ce, e1, e2, hq, hce, hcv, hcl, h1, hL, h2, h3⟩, st⟩
  · dsimp only [Pt.U, Pt.locs, Pt.cells, Pt.slots] at X' e1 e2 h1 h2 h3 st
    subst h1; subst h2; subst h3
    exact Or.inl ⟨v, (T.setVm vm₁).calling g' mk (Value.ref b :: As).toArray, t, U', L, hT, X', hL, e1, e2, hq, st⟩
  · dsimp only [Pt.U, Pt.locs, Pt.cells, Pt.slots] at X' e1 e2 h1 h2 h3 st hcl
    subst h1; subst h2; subst h3
    exact Or.inr ⟨q, (T.setVm vm₁).calling g' mk (Value.ref b :: As).toArray, t, U', L, E, ce, hT, X', hL, e1, e2, hq, hce, hcv, vx_cls hW₁ hcl, st⟩
end
/-! ===== END ===== -/
/-! ===== BEGIN a private method of a nest mate that may throw (follows va_callVN, va_callSN, va_runVN, va_runSN) ===== -/
section
variable {p : Program} {l : Launch} {e : Env} {R : Room} {s : State} {m : MethodId} {args : Array Value} {below : List Frame} {meth : Method} {c : Code} {H : Heap} {locs : List Loc} {cells slots : Nat}
variable {T : State}
theorem vx_callVN (X : Stand p l e R s m args below meth c T locs cells slots) (hexec : p.tables.exec = Jvm.exec) {own C : String} {index : Nat} {host : String} {y : MethodName} {bytes : ByteArray} {maxL : Nat} {ret : Option FieldType}
    (hown : s.vm.findClass own = some m.cls) (hlink : (Cond.methodLinkNest own index y host).before args s = true) (hinst : (Cond.instanceMethod y).before args s = true) (hsel : (Cond.selects C y y).before args s = true)
    (hcode : (Cond.code y bytes maxL ret).before args s = true) (hy : y.cls ≠ "java/lang/invoke/MethodHandle" ∧ y.cls ≠ "java/lang/invoke/VarHandle")
    {W : Nat} {Pre : Pt → Array Value → Prop} {Post : Pt → Array Value → Option Value → Pt → Prop} {PostX : Pt → Array Value → Addr → Pt → Prop} (hK : vx_Back l R p e below s args y 3 W Pre Post PostX)
    {b : Addr} {cellB : Cell} (hcell : T.heap[b]? = some cellB) (hobj : cellB.vm.isStatics = false) (hcls : s.vm.findClass C = some cellB.cls)
    {g : JFrame} (hg : g.method = m) (hsize : g.locals.size = c.maxLocals) {argsL rest : List Value} (hlen : ∀ sig, parseMethodDescriptor y.desc = some sig → argsL.length = sig.parameters.length)
    (hstack : g.stack = argsL.reverse ++ .ref b :: rest) (hW : 2 * g.monitorRoom + (rest.map fun v => v.category).sum ≤ W) (hdg : decode c.code g.pc = .ok (.invokevirtual index, 3))
    (hpre : ∀ vm₁, s.WarmedH vm₁ → Pre ⟨T.setVm vm₁, locs, cells, slots⟩ (Value.ref b :: argsL).toArray) :
    (∃ (v : Option Value) (vm₁ : Vm) (B : Pt), s.WarmedH vm₁ ∧ Stand p l e R s m args below meth c B.U B.locs B.cells B.slots ∧ Post ⟨T.setVm vm₁, locs, cells, slots⟩ (Value.ref b :: argsL).toArray v B ∧
      ∀ target, Steps p.tables e below (B.U.setTop { g with pc := g.pc + 3, stack := v.toList ++ rest }) target → Steps p.tables e below (T.setTop g) target) ∨
    (∃ (q : Addr) (vm₁ : Vm) (B : Pt), s.WarmedH vm₁ ∧ Stand p l e R s m args below meth c B.U B.locs B.cells B.slots ∧ PostX ⟨T.setVm vm₁, locs, cells, slots⟩ (Value.ref b :: argsL).toArray q B ∧
      Steps p.tables e below (T.setTop g) ((B.U.setTop { g with stack := rest }).pushFrame (.throwing q))) := by
  obtain ⟨mk, methM, hnamed, hmethM, hstM, habM⟩ := Cond.instanceMethod_spec hinst
  obtain ⟨methM', cM, hmethM', -, -, -, -, -, -, hsigM⟩ := Cond.code_spec hnamed hcode
  cases hmethM.symm.trans hmethM'
  obtain ⟨c2, r2, m2, q1, q2, q3, q4, kP, hkP, hkPi⟩ := Cond.selects_spec hsel
  cases hcls.symm.trans q1
  cases (State.methodFound?_of_named hnamed hy).symm.trans q2
  cases hnamed.symm.trans q3
  have hselP : selectMethod e.platform s.vm cellB.cls mk = .method mk := by rw [Launch.admits_selectMethod X.admits]; exact q4
  obtain ⟨vm₁, X₁, hstep₁⟩ := X.invokevirtualNest hexec hown hlink hnamed hmethM hstM hkP hkPi hy (a := b) (cell := cellB) hcell
    (fun z h => by rw [h] at hobj; cases hobj) hselP hmethM habM hkP hkPi (g := g) hg (argsL := argsL) (rest := rest) (hlen _ hsigM) hstack hdg
  rcases hK m meth c ⟨T.setVm vm₁, locs, cells, slots⟩ { g with stack := rest } (.invokevirtual index) mk (Value.ref b :: argsL).toArray X₁ hg hsize hdg hW (X₁.named hnamed) (hpre vm₁ X₁.warmed) with ⟨v, B, X', hpost, hsteps⟩ | ⟨q, B, X', hpost, hsteps⟩
  · exact Or.inl ⟨v, vm₁, B, X₁.warmed, X', hpost, fun target h => hstep₁ _ fun acts => by rw [doInvoke_state]; exact hsteps.trans h⟩
  · exact Or.inr ⟨q, vm₁, B, X₁.warmed, X', hpost, hstep₁ _ fun acts => by rw [doInvoke_state]; exact hsteps⟩
theorem vx_callSN (X : Stand p l e R s m args below meth c T locs cells slots) (hexec : p.tables.exec = Jvm.exec) {own : String} {index : Nat} {host : String} {y : MethodName} {bytes : ByteArray} {maxL : Nat} {ret : Option FieldType}
    (hown : s.vm.findClass own = some m.cls) (hlink : (Cond.methodLinkNest own index y host).before args s = true) (hstat : (Cond.static y).before args s = true) (hinit : (Cond.initialized y.cls).before args s = true)
    (hcode : (Cond.code y bytes maxL ret).before args s = true) (hy : y.cls ≠ "java/lang/invoke/MethodHandle" ∧ y.cls ≠ "java/lang/invoke/VarHandle")
    {W : Nat} {Pre : Pt → Array Value → Prop} {Post : Pt → Array Value → Option Value → Pt → Prop} {PostX : Pt → Array Value → Addr → Pt → Prop} (hK : vx_Back l R p e below s args y 3 W Pre Post PostX)
    {g : JFrame} (hg : g.method = m) (hsize : g.locals.size = c.maxLocals) {argsL rest : List Value} (hlen : ∀ sig, parseMethodDescriptor y.desc = some sig → argsL.length = sig.parameters.length)
    (hstack : g.stack = argsL.reverse ++ rest) (hW : 2 * g.monitorRoom + (rest.map fun v => v.category).sum ≤ W) (hdg : decode c.code g.pc = .ok (.invokestatic index, 3))
    (hpre : ∀ vm₁, s.WarmedH vm₁ → Pre ⟨T.setVm vm₁, locs, cells, slots⟩ argsL.toArray) :
    (∃ (v : Option Value) (vm₁ : Vm) (B : Pt), s.WarmedH vm₁ ∧ Stand p l e R s m args below meth c B.U B.locs B.cells B.slots ∧ Post ⟨T.setVm vm₁, locs, cells, slots⟩ argsL.toArray v B ∧
      ∀ target, Steps p.tables e below (B.U.setTop { g with pc := g.pc + 3, stack := v.toList ++ rest }) target → Steps p.tables e below (T.setTop g) target) ∨
    (∃ (q : Addr) (vm₁ : Vm) (B : Pt), s.WarmedH vm₁ ∧ Stand p l e R s m args below meth c B.U B.locs B.cells B.slots ∧ PostX ⟨T.setVm vm₁, locs, cells, slots⟩ argsL.toArray q B ∧
      Steps p.tables e below (T.setTop g) ((B.U.setTop { g with stack := rest }).pushFrame (.throwing q))) := by
  obtain ⟨mk, hnamed⟩ := Cond.code_named hcode
  obtain ⟨methM, cM, hmethM, -, -, -, -, -, -, hsigM⟩ := Cond.code_spec hnamed hcode
  have hstatic : methM.isStatic = true := Cond.static_spec hnamed hmethM hstat
  obtain ⟨kP, hkP, -⟩ := className_of_methodNamed hnamed
  have hinitP : kP.init = .initialized := Cond.initialized_spec (findClass_of_methodNamed hnamed) hkP hinit
  obtain ⟨vm₁, X₁, hstep₁⟩ := X.invokestaticNest hexec hown hlink hnamed hmethM hstatic hkP hinitP hy (g := g) hg (argsL := argsL) (rest := rest) (hlen _ hsigM) hstack hdg
  rcases hK m meth c ⟨T.setVm vm₁, locs, cells, slots⟩ { g with stack := rest } (.invokestatic index) mk argsL.toArray X₁ hg hsize hdg hW (X₁.named hnamed) (hpre vm₁ X₁.warmed) with ⟨v, B, X', hpost, hsteps⟩ | ⟨q, B, X', hpost, hsteps⟩
  · exact Or.inl ⟨v, vm₁, B, X₁.warmed, X', hpost, fun target h => hstep₁ _ fun acts => by rw [doInvoke_state]; exact hsteps.trans h⟩
  · exact Or.inr ⟨q, vm₁, B, X₁.warmed, X', hpost, hstep₁ _ fun acts => by rw [doInvoke_state]; exact hsteps⟩
theorem vx_runVN {y : MethodName} {bytes cc : ByteArray} {maxL nL mc ms n index : Nat} {ret : Option FieldType} {ws : List Cond} {rm : Room} {Pc : Array Value → State → Prop} {Qc : Array Value → State → Outcome → State → Prop} {XC : String → State → State → Prop} {free : Addr → Prop} {Ts : List Cond} {own C host : String} {b : Addr} {As rest : List Value} {g : JFrame}
    (S : CallFix p m c cc nL s args Ts own) (hM : vx_Met l y ws rm Pc Qc XC mc ms free) (cw : va_CN R s args own index y host bytes maxL ret ws rm mc ms n ∧ (Cond.instanceMethod y).before args s = true ∧ (Cond.selects C y y).before args s = true) (hp : PreV s H C b Pc As)
    (hg : g.method = m) (hn : As.length = n) (hsize : g.locals.size = nL) (hstack : g.stack = As.reverse ++ .ref b :: rest) (hW : 2 * g.monitorRoom + (rest.map fun v => v.category).sum ≤ 8) (hdg : decode cc g.pc = .ok (.invokevirtual index, 3)) (hf : cells + mc ≤ R.cells ∧ slots + ms ≤ R.slots) :
    vx_Run p l e R s m args below meth c H locs cells slots mc ms g rest (Qc (Value.ref b :: As).toArray) XC free := by
  obtain ⟨⟨⟨hrc, hrs, hfr, hlo, hws, hcw⟩, hcode, hini, hy, hlen, hl⟩, hx1, hx2⟩ := cw
  have hK : vx_Back l R p e below s args y 3 8 (PreOf R mc ms Pc) (PostOf Qc mc ms free) (vx_Post XC mc ms free) := vx_back (bytes := bytes) (maxL := maxL) (ret := ret) hM hp.1 hrc hrs hfr hlo hws hcw (fun a' U hW => word_at hW (Or.inl (by first | rfl | simp [Cond.onTables, Cond.keeps, Cond.steady])) hini)
  obtain ⟨hx, hb, hml, ho, -⟩ := S
  obtain ⟨-, ⟨cellB, hcB, hoB, hclB⟩, hPc⟩ := hp
  intro T hT X
  rcases vx_callVN X hx (C := C) (bytes := bytes) (maxL := maxL) (ret := ret) ho hl hx1 hx2 hcode hy hK (by rw [hT]; exact hcB) hoB hclB hg (hsize.trans hml.symm) (argsL := As) (rest := rest) (fun sig h => hn.trans (hlen sig h)) hstack hW (by rw [hb]; exact hdg)
    (fun vm₁ hW₁ => ⟨hf.1, hf.2, hPc (T.setVm vm₁) hT hW₁⟩) with ⟨v, vm₁, ⟨U', l2, c2, s2⟩, hW₁, X', ⟨g', mk, t, L, e1, e2, hq, h1, hL, h2, h3⟩, st⟩ | ⟨q, vm₁, ⟨U', l2, c2, s2⟩, hW₁, X', ⟨g', mk, t, L, E, ce, e1, e2, hq, hce, hcv, hcl, h1, hL, h2, h3⟩, st⟩
  · dsimp only [Pt.U, Pt.locs, Pt.cells, Pt.slots] at X' e1 e2 h1 h2 h3 st
    subst h1; subst h2; subst h3
    exact Or.inl ⟨v, (T.setVm vm₁).calling g' mk (Value.ref b :: As).toArray, t, U', L, hT, X', hL, e1, e2, hq, st⟩
  · dsimp only [Pt.U, Pt.locs, Pt.cells, Pt.slots] at X' e1 e2 h1 h2 h3 st hcl
    subst h1; subst h2; subst h3
    exact Or.inr ⟨q, (T.setVm vm₁).calling g' mk (Value.ref b :: As).toArray, t, U', L, E, ce, hT, X', hL, e1, e2, hq, hce, hcv, vx_cls hW₁ hcl, st⟩
theorem vx_runSN {y : MethodName} {bytes cc : ByteArray} {maxL nL mc ms n index : Nat} {ret : Option FieldType} {ws : List Cond} {rm : Room} {Pc : Array Value → State → Prop} {Qc : Array Value → State → Outcome → State → Prop} {XC : String → State → State → Prop} {free : Addr → Prop} {Ts : List Cond} {own host : String} {As rest : List Value} {g : JFrame}
    (S : CallFix p m c cc nL s args Ts own) (hM : vx_Met l y ws rm Pc Qc XC mc ms free) (cw : va_CN R s args own index y host bytes maxL ret ws rm mc ms n ∧ (Cond.static y).before args s = true ∧ True) (hp : PreS s H Pc As)
    (hg : g.method = m) (hn : As.length = n) (hsize : g.locals.size = nL) (hstack : g.stack = As.reverse ++ rest) (hW : 2 * g.monitorRoom + (rest.map fun v => v.category).sum ≤ 8) (hdg : decode cc g.pc = .ok (.invokestatic index, 3)) (hf : cells + mc ≤ R.cells ∧ slots + ms ≤ R.slots) :
    vx_Run p l e R s m args below meth c H locs cells slots mc ms g rest (Qc As.toArray) XC free := by
  obtain ⟨⟨⟨hrc, hrs, hfr, hlo, hws, hcw⟩, hcode, hini, hy, hlen, hl⟩, hx1, hx2⟩ := cw
  have hK : vx_Back l R p e below s args y 3 8 (PreOf R mc ms Pc) (PostOf Qc mc ms free) (vx_Post XC mc ms free) := vx_back (bytes := bytes) (maxL := maxL) (ret := ret) hM hp.1 hrc hrs hfr hlo hws hcw (fun a' U hW => word_at hW (Or.inl (by first | rfl | simp [Cond.onTables, Cond.keeps, Cond.steady])) hini)
  obtain ⟨hx, hb, hml, ho, -⟩ := S
  have hPc := hp.2
  intro T hT X
  rcases vx_callSN X hx (bytes := bytes) (maxL := maxL) (ret := ret) ho hl hx1 hini hcode hy hK hg (hsize.trans hml.symm) (argsL := As) (rest := rest) (fun sig h => hn.trans (hlen sig h)) hstack hW (by rw [hb]; exact hdg)
    (fun vm₁ hW₁ => ⟨hf.1, hf.2, hPc (T.setVm vm₁) hT hW₁⟩) with ⟨v, vm₁, ⟨U', l2, c2, s2⟩, hW₁, X', ⟨g', mk, t, L, e1, e2, hq, h1, hL, h2, h3⟩, st⟩ | ⟨q, vm₁, ⟨U', l2, c2, s2⟩, hW₁, X', ⟨g', mk, t, L, E, ce, e1, e2, hq, hce, hcv, hcl, h1, hL, h2, h3⟩, st⟩
  · dsimp only [Pt.U, Pt.locs, Pt.cells, Pt.slots] at X' e1 e2 h1 h2 h3 st
    subst h1; subst h2; subst h3
    exact Or.inl ⟨v, (T.setVm vm₁).calling g' mk As.toArray, t, U', L, hT, X', hL, e1, e2, hq, st⟩
  · dsimp only [Pt.U, Pt.locs, Pt.cells, Pt.slots] at X' e1 e2 h1 h2 h3 st hcl
    subst h1; subst h2; subst h3
    exact Or.inr ⟨q, (T.setVm vm₁).calling g' mk As.toArray, t, U', L, E, ce, hT, X', hL, e1, e2, hq, hce, hcv, vx_cls hW₁ hcl, st⟩
end
/-! ===== END ===== -/
/-! ===== BEGIN calls by an interface of methods that may throw (vx_callIF, vx_runF follow va_callIF, va_runF of this kit) ===== -/
section
variable {p : Program} {l : Launch} {e : Env} {R : Room} {s : State} {m : MethodId} {args : Array Value} {below : List Frame} {meth : Method} {c : Code} {H : Heap} {locs : List Loc} {cells slots : Nat} {Q : State → Prop}
variable {mc ms : Nat} {free : Addr → Prop} {A0 A1 : Nat → Prop} {H0 : Heap} {a : Array Value} {pc : Nat} {ls : Array Slot} {st0 rest : List Value}
def vx_Run5 (p : Program) (l : Launch) (e : Env) (R : Room) (s : State) (m : MethodId) (args : Array Value) (below : List Frame) (meth : Method) (c : Code) (H : Heap) (locs : List Loc) (cells slots mc ms : Nat) (g : JFrame) (rest : List Value) (Qa : State → Outcome → State → Prop) (XC : String → State → State → Prop) (free : Addr → Prop) : Prop :=
  ∀ T : State, T.heap = H → Stand p l e R s m args below meth c T locs cells slots →
    (∃ (v : Option Value) (st₀ t T' : State) (L : List Loc), st₀.heap = H ∧ Stand p l e R s m args below meth c T' (locs ++ L) (cells + mc) (slots + ms) ∧ (∀ q ∈ L, free q.base) ∧ T'.heap = t.heap ∧ T'.vm = t.vm ∧ Qa st₀ (.returned v) t ∧
      Goes p e below T g T' { g with pc := g.pc + 5, stack := v.toList ++ rest }) ∨
    (∃ (q : Addr) (st₀ t T' : State) (L : List Loc) (E : String) (ce : Cell), st₀.heap = H ∧ Stand p l e R s m args below meth c T' (locs ++ L) (cells + mc) (slots + ms) ∧ (∀ z ∈ L, free z.base) ∧ T'.heap = t.heap ∧ T'.vm = t.vm ∧ XC E st₀ t ∧ t.heap[q]? = some ce ∧ ce.vm = .none ∧ s.vm.findClass E = some ce.cls ∧
      Steps p.tables e below (T.setTop g) ((T'.setTop { g with stack := rest }).pushFrame (.throwing q)))
theorem vx_callIF {T : State} (X : Stand p l e R s m args below meth c T locs cells slots) (hexec : p.tables.exec = Jvm.exec) {own C : String} {index count : Nat} {x y : MethodName} {bytes : ByteArray} {maxL : Nat} {ret : Option FieldType}
    (hown : s.vm.findClass own = some m.cls) (hlink : (Cond.methodLink own index x).before args s = true) (hdecl : (Cond.declares x).before args s = true) (hface : (Cond.interfaceMethod x.cls x.cls x.name x.desc).before args s = true)
    (hsel : (Cond.selects C x y).before args s = true) (hinst : (Cond.instanceMethod y).before args s = true) (hpub : (Cond.publicMethod y).before args s = true) (hunh : (Cond.unhidden C x.name x.desc).before args s = true)
    (hcast : (Cond.castable C x.cls).before args s = true) (hcode : (Cond.code y bytes maxL ret).before args s = true) (hx : x.cls ≠ "java/lang/invoke/MethodHandle" ∧ x.cls ≠ "java/lang/invoke/VarHandle")
    {W9 : Nat} {Pre : Pt → Array Value → Prop} {Post : Pt → Array Value → Option Value → Pt → Prop} {PostX : Pt → Array Value → Addr → Pt → Prop} (hK : vx_Back l R p e below s args y 5 W9 Pre Post PostX)
    {b : Addr} {cellB : Cell} {kB : Class} (hcell : T.heap[b]? = some cellB) (hobj : cellB.vm.isStatics = false) (hcls : s.vm.findClass C = some cellB.cls) (hkB : s.vm.classes[cellB.cls]? = some kB)
    {g : JFrame} (hg : g.method = m) (hsize : g.locals.size = c.maxLocals) {argsL rest : List Value} (hlen : ∀ sig, parseMethodDescriptor x.desc = some sig → argsL.length = sig.parameters.length)
    (hstack : g.stack = argsL.reverse ++ .ref b :: rest) (hW : 2 * g.monitorRoom + (rest.map fun v => v.category).sum ≤ W9) (hdg : decode c.code g.pc = .ok (.invokeinterface index count, 5))
    (hpre : ∀ vm₁, s.WarmedH vm₁ → Pre ⟨T.setVm vm₁, locs, cells, slots⟩ (Value.ref b :: argsL).toArray) :
    (∃ (v : Option Value) (vm₁ : Vm) (B : Pt), s.WarmedH vm₁ ∧ Stand p l e R s m args below meth c B.U B.locs B.cells B.slots ∧ Post ⟨T.setVm vm₁, locs, cells, slots⟩ (Value.ref b :: argsL).toArray v B ∧
      ∀ target, Steps p.tables e below (B.U.setTop { g with pc := g.pc + 5, stack := v.toList ++ rest }) target → Steps p.tables e below (T.setTop g) target) ∨
    (∃ (q : Addr) (vm₁ : Vm) (B : Pt), s.WarmedH vm₁ ∧ Stand p l e R s m args below meth c B.U B.locs B.cells B.slots ∧ PostX ⟨T.setVm vm₁, locs, cells, slots⟩ (Value.ref b :: argsL).toArray q B ∧
      Steps p.tables e below (T.setTop g) ((B.U.setTop { g with stack := rest }).pushFrame (.throwing q))) := by
  obtain ⟨r0, r, hn, hrm, hstR, hsigR⟩ := Cond.declares_spec hdecl
  obtain ⟨cL, kL, r1, hcL, hkL, hiL, hfoundL, hn1⟩ := Cond.interfaceMethod_spec hface
  cases hn.symm.trans hn1
  have hr0cls : r0.cls = cL := Option.some.inj ((findClass_of_methodNamed hn).symm.trans hcL)
  obtain ⟨hnameR, hdescR⟩ := name_of_methodNamed hn hrm
  obtain ⟨mk, methM, hnamed, hmethM, -, habM⟩ := Cond.instanceMethod_spec hinst
  obtain ⟨c2, r2, m2, q1, q2, q3, q4, -⟩ := Cond.selects_spec hsel
  cases hcls.symm.trans q1
  cases hfoundL.symm.trans q2
  cases hnamed.symm.trans q3
  have hselP : selectMethod e.platform s.vm cellB.cls r0 = .method mk := by rw [Launch.admits_selectMethod X.admits]; exact q4
  have hpubM : hasFlag methM.accessFlags Acc.public_ = true := Cond.publicMethod_spec hnamed hmethM hpub
  have hway : ((cellB.cls :: s.vm.superclasses cellB.cls).any fun k => (declaredIn s.vm r.name r.desc k).any fun (_, z) => z.isPrivate || z.isStatic) = false := by
    rw [hnameR, hdescR]; exact Cond.unhidden_spec hcls hunh
  obtain ⟨c3, t3, w1, w2, w3⟩ := Cond.castable_spec hcast
  cases hcls.symm.trans w1
  cases hcL.symm.trans w2
  obtain ⟨vm₁, X₁, hstep₁⟩ := X.invokeinterface hexec hown hlink hn hrm hstR (by rw [hr0cls]; exact hkL) hiL hx (a := b) (cell := cellB) (kcell := kB) hcell
    (fun z h => by rw [h] at hobj; cases hobj) hkB (by rw [hr0cls]; exact w3) hselP hmethM hway hpubM habM (g := g) hg (argsL := argsL) (rest := rest) (hlen _ hsigR) hstack hdg
  rcases hK m meth c ⟨T.setVm vm₁, locs, cells, slots⟩ { g with stack := rest } (.invokeinterface index count) mk (Value.ref b :: argsL).toArray X₁ hg hsize hdg hW (X₁.named hnamed) (hpre vm₁ X₁.warmed) with ⟨v, B, X', hpost, hsteps⟩ | ⟨q, B, X', hpost, hsteps⟩
  · exact Or.inl ⟨v, vm₁, B, X₁.warmed, X', hpost, fun target h => hstep₁ _ fun acts => by rw [doInvoke_state]; exact hsteps.trans h⟩
  · exact Or.inr ⟨q, vm₁, B, X₁.warmed, X', hpost, hstep₁ _ fun acts => by rw [doInvoke_state]; exact hsteps⟩
theorem vx_runF {x y : MethodName} {bytes cc : ByteArray} {maxL nL mc ms n index count : Nat} {ret : Option FieldType} {ws : List Cond} {rm : Room} {Pc : Array Value → State → Prop} {Qc : Array Value → State → Outcome → State → Prop} {XC : String → State → State → Prop} {free : Addr → Prop} {Ts : List Cond} {own C : String} {cC : ClassId} {b : Addr} {As rest : List Value} {g : JFrame}
    (hat : ClassAt s C cC) (S : CallFix p m c cc nL s args Ts own) (hM : vx_Met l y ws rm Pc Qc XC mc ms free) (cw : va_CI R s args own C index x y bytes maxL ret ws rm mc ms n) (hp : PreV s H C b Pc As)
    (hg : g.method = m) (hn : As.length = n) (hsize : g.locals.size = nL) (hstack : g.stack = As.reverse ++ .ref b :: rest) (hW : 2 * g.monitorRoom + (rest.map fun v => v.category).sum ≤ 8) (hdg : decode cc g.pc = .ok (.invokeinterface index count, 5)) (hf : cells + mc ≤ R.cells ∧ slots + ms ≤ R.slots) :
    vx_Run5 p l e R s m args below meth c H locs cells slots mc ms g rest (Qc (Value.ref b :: As).toArray) XC free := by
  obtain ⟨hrc, hrs, hfr, hlo, hws, hcw⟩ := cw.back
  have hini := cw.init
  have hK : vx_Back l R p e below s args y 5 8 (PreOf R mc ms Pc) (PostOf Qc mc ms free) (vx_Post XC mc ms free) := vx_back (bytes := bytes) (maxL := maxL) (ret := ret) hM hp.1 hrc hrs hfr hlo hws hcw (fun a' U hW => word_at hW (Or.inl (by first | rfl | simp [Cond.onTables, Cond.keeps, Cond.steady])) hini)
  obtain ⟨hx, hb, hml, ho, -⟩ := S
  obtain ⟨-, ⟨cellB, hcB, hoB, hclB⟩, hPc⟩ := hp
  obtain ⟨hfc, kB, hkB, -⟩ := hat
  cases hfc.symm.trans hclB
  intro T hT X
  rcases vx_callIF X hx (C := C) (bytes := bytes) (maxL := maxL) (ret := ret) ho cw.link cw.decl cw.face cw.sel cw.inst cw.pub cw.unh cw.cast cw.code cw.notMH hK (by rw [hT]; exact hcB) hoB hclB hkB hg (hsize.trans hml.symm) (argsL := As) (rest := rest) (fun sig h => hn.trans (cw.len sig h)) hstack hW (by rw [hb]; exact hdg)
    (fun vm₁ hW₁ => ⟨hf.1, hf.2, hPc (T.setVm vm₁) hT hW₁⟩) with ⟨v, vm₁, ⟨U', l2, c2, s2⟩, hW₁, X', ⟨g', mk, t, L, e1, e2, hq, h1, hL, h2, h3⟩, st⟩ | ⟨q, vm₁, ⟨U', l2, c2, s2⟩, hW₁, X', ⟨g', mk, t, L, E, ce, e1, e2, hq, hce, hcv, hcl, h1, hL, h2, h3⟩, st⟩
  · dsimp only [Pt.U, Pt.locs, Pt.cells, Pt.slots] at X' e1 e2 h1 h2 h3 st
    subst h1; subst h2; subst h3
    exact Or.inl ⟨v, (T.setVm vm₁).calling g' mk (Value.ref b :: As).toArray, t, U', L, hT, X', hL, e1, e2, hq, st⟩
  · dsimp only [Pt.U, Pt.locs, Pt.cells, Pt.slots] at X' e1 e2 h1 h2 h3 st hcl
    subst h1; subst h2; subst h3
    exact Or.inr ⟨q, (T.setVm vm₁).calling g' mk (Value.ref b :: As).toArray, t, U', L, E, ce, hT, X', hL, e1, e2, hq, hce, hcv, vx_cls hW₁ hcl, st⟩
theorem vx_callFv {S SX : Type} {post : S → Prop} {px : SX → Prop} {B : S → State → Prop} {BX : String → SX → State → Prop} {AX : Nat → Prop} (hr : vx_Run5 p l e R s m args below meth c H locs cells slots mc ms (F0 m pc ls st0) rest (va_Qv post B A1 a) (vx_X px BX AX) free) (hS : va_S A0 H0 H locs) (hA : ∀ q, q < H.size → A1 q → A0 q) (hf : ∀ q, free q → A0 q) (hAX : ∀ q, q < H.size → AX q → A0 q)
    (kx : ∀ (E : String) (ce : Cell) (q9 : Addr) (u : SX) (t : State) (H1 : Heap) (locs1 : List Loc), t.heap = H1 → s.vm.Alike t.vm → px u → BX E u t → H.size ≤ H1.size → (∀ q : Nat, q < H.size → ¬ AX q → H1[q]? = H[q]?) → va_S A0 H0 H1 locs1 → H1[q9]? = some ce → ce.vm = .none → s.vm.findClass E = some ce.cls → vx_W p l e R s m args below meth c H1 locs1 (cells + mc) (slots + ms) Q (F0 m pc ls rest) q9)
    (kk : ∀ (u : S) (t : State) (H1 : Heap) (locs1 : List Loc), t.heap = H1 → s.vm.Alike t.vm → post u → B u t → H.size ≤ H1.size → (∀ q : Nat, q < H.size → ¬ A1 q → H1[q]? = H[q]?) → va_S A0 H0 H1 locs1 → W p l e R s m args below meth c H1 locs1 (cells + mc) (slots + ms) Q (F0 m (pc + 5) ls (rest))) : W p l e R s m args below meth c H locs cells slots Q (F0 m pc ls st0) := by
  intro T hT X
  rcases hr T hT X with ⟨v, st₀, t, T', L, h0, X', hL, e1, e2, ⟨⟨u, hv, hp, hb⟩, hF⟩, st⟩ | ⟨q, st₀, t, T', L, E, ce, h0, X', hL, e1, e2, ⟨u, hp, hb, hF⟩, hce, hcv, hcl, st⟩
  · cases hv
    obtain ⟨k1, k2, k3⟩ := vx_keep h0 e1 hS hA hf hL hF
    obtain ⟨t2, a1, b1⟩ := kk u t T'.heap (locs ++ L) e1.symm (by rw [← e2]; exact X'.warmed.alike) hp hb k1 k2 k3 T' rfl X'
    exact ⟨t2, st t2 a1, b1⟩
  · obtain ⟨k1, k2, k3⟩ := vx_keep h0 e1 hS hAX hf hL hF
    obtain ⟨t2, a1, b1⟩ := kx E ce q u t T'.heap (locs ++ L) e1.symm (by rw [← e2]; exact X'.warmed.alike) hp hb k1 k2 k3 (by rw [e1]; exact hce) hcv hcl T' rfl X'
    exact ⟨t2, st.trans a1, b1⟩
theorem vx_callFi {S SX : Type} {post : Int32 → S → Prop} {px : SX → Prop} {B : S → State → Prop} {BX : String → SX → State → Prop} {AX : Nat → Prop} (hr : vx_Run5 p l e R s m args below meth c H locs cells slots mc ms (F0 m pc ls st0) rest (va_Qi post B A1 a) (vx_X px BX AX) free) (hS : va_S A0 H0 H locs) (hA : ∀ q, q < H.size → A1 q → A0 q) (hf : ∀ q, free q → A0 q) (hAX : ∀ q, q < H.size → AX q → A0 q)
    (kx : ∀ (E : String) (ce : Cell) (q9 : Addr) (u : SX) (t : State) (H1 : Heap) (locs1 : List Loc), t.heap = H1 → s.vm.Alike t.vm → px u → BX E u t → H.size ≤ H1.size → (∀ q : Nat, q < H.size → ¬ AX q → H1[q]? = H[q]?) → va_S A0 H0 H1 locs1 → H1[q9]? = some ce → ce.vm = .none → s.vm.findClass E = some ce.cls → vx_W p l e R s m args below meth c H1 locs1 (cells + mc) (slots + ms) Q (F0 m pc ls rest) q9)
    (kk : ∀ (r : Int32) (u : S) (t : State) (H1 : Heap) (locs1 : List Loc), t.heap = H1 → s.vm.Alike t.vm → post r u → B u t → H.size ≤ H1.size → (∀ q : Nat, q < H.size → ¬ A1 q → H1[q]? = H[q]?) → va_S A0 H0 H1 locs1 → W p l e R s m args below meth c H1 locs1 (cells + mc) (slots + ms) Q (F0 m (pc + 5) ls (.int r :: rest))) : W p l e R s m args below meth c H locs cells slots Q (F0 m pc ls st0) := by
  intro T hT X
  rcases hr T hT X with ⟨v, st₀, t, T', L, h0, X', hL, e1, e2, ⟨⟨r, u, hv, hp, hb⟩, hF⟩, st⟩ | ⟨q, st₀, t, T', L, E, ce, h0, X', hL, e1, e2, ⟨u, hp, hb, hF⟩, hce, hcv, hcl, st⟩
  · cases hv
    obtain ⟨k1, k2, k3⟩ := vx_keep h0 e1 hS hA hf hL hF
    obtain ⟨t2, a1, b1⟩ := kk r u t T'.heap (locs ++ L) e1.symm (by rw [← e2]; exact X'.warmed.alike) hp hb k1 k2 k3 T' rfl X'
    exact ⟨t2, st t2 a1, b1⟩
  · obtain ⟨k1, k2, k3⟩ := vx_keep h0 e1 hS hAX hf hL hF
    obtain ⟨t2, a1, b1⟩ := kx E ce q u t T'.heap (locs ++ L) e1.symm (by rw [← e2]; exact X'.warmed.alike) hp hb k1 k2 k3 (by rw [e1]; exact hce) hcv hcl T' rfl X'
    exact ⟨t2, st.trans a1, b1⟩
theorem vx_callFl {S SX : Type} {post : Int64 → S → Prop} {px : SX → Prop} {B : S → State → Prop} {BX : String → SX → State → Prop} {AX : Nat → Prop} (hr : vx_Run5 p l e R s m args below meth c H locs cells slots mc ms (F0 m pc ls st0) rest (va_Ql post B A1 a) (vx_X px BX AX) free) (hS : va_S A0 H0 H locs) (hA : ∀ q, q < H.size → A1 q → A0 q) (hf : ∀ q, free q → A0 q) (hAX : ∀ q, q < H.size → AX q → A0 q)
    (kx : ∀ (E : String) (ce : Cell) (q9 : Addr) (u : SX) (t : State) (H1 : Heap) (locs1 : List Loc), t.heap = H1 → s.vm.Alike t.vm → px u → BX E u t → H.size ≤ H1.size → (∀ q : Nat, q < H.size → ¬ AX q → H1[q]? = H[q]?) → va_S A0 H0 H1 locs1 → H1[q9]? = some ce → ce.vm = .none → s.vm.findClass E = some ce.cls → vx_W p l e R s m args below meth c H1 locs1 (cells + mc) (slots + ms) Q (F0 m pc ls rest) q9)
    (kk : ∀ (r : Int64) (u : S) (t : State) (H1 : Heap) (locs1 : List Loc), t.heap = H1 → s.vm.Alike t.vm → post r u → B u t → H.size ≤ H1.size → (∀ q : Nat, q < H.size → ¬ A1 q → H1[q]? = H[q]?) → va_S A0 H0 H1 locs1 → W p l e R s m args below meth c H1 locs1 (cells + mc) (slots + ms) Q (F0 m (pc + 5) ls (.long r :: rest))) : W p l e R s m args below meth c H locs cells slots Q (F0 m pc ls st0) := by
  intro T hT X
  rcases hr T hT X with ⟨v, st₀, t, T', L, h0, X', hL, e1, e2, ⟨⟨r, u, hv, hp, hb⟩, hF⟩, st⟩ | ⟨q, st₀, t, T', L, E, ce, h0, X', hL, e1, e2, ⟨u, hp, hb, hF⟩, hce, hcv, hcl, st⟩
  · cases hv
    obtain ⟨k1, k2, k3⟩ := vx_keep h0 e1 hS hA hf hL hF
    obtain ⟨t2, a1, b1⟩ := kk r u t T'.heap (locs ++ L) e1.symm (by rw [← e2]; exact X'.warmed.alike) hp hb k1 k2 k3 T' rfl X'
    exact ⟨t2, st t2 a1, b1⟩
  · obtain ⟨k1, k2, k3⟩ := vx_keep h0 e1 hS hAX hf hL hF
    obtain ⟨t2, a1, b1⟩ := kx E ce q u t T'.heap (locs ++ L) e1.symm (by rw [← e2]; exact X'.warmed.alike) hp hb k1 k2 k3 (by rw [e1]; exact hce) hcv hcl T' rfl X'
    exact ⟨t2, st.trans a1, b1⟩
theorem vx_callFf {S SX : Type} {post : UInt32 → S → Prop} {px : SX → Prop} {B : S → State → Prop} {BX : String → SX → State → Prop} {AX : Nat → Prop} (hr : vx_Run5 p l e R s m args below meth c H locs cells slots mc ms (F0 m pc ls st0) rest (va_Qf post B A1 a) (vx_X px BX AX) free) (hS : va_S A0 H0 H locs) (hA : ∀ q, q < H.size → A1 q → A0 q) (hf : ∀ q, free q → A0 q) (hAX : ∀ q, q < H.size → AX q → A0 q)
    (kx : ∀ (E : String) (ce : Cell) (q9 : Addr) (u : SX) (t : State) (H1 : Heap) (locs1 : List Loc), t.heap = H1 → s.vm.Alike t.vm → px u → BX E u t → H.size ≤ H1.size → (∀ q : Nat, q < H.size → ¬ AX q → H1[q]? = H[q]?) → va_S A0 H0 H1 locs1 → H1[q9]? = some ce → ce.vm = .none → s.vm.findClass E = some ce.cls → vx_W p l e R s m args below meth c H1 locs1 (cells + mc) (slots + ms) Q (F0 m pc ls rest) q9)
    (kk : ∀ (r : UInt32) (u : S) (t : State) (H1 : Heap) (locs1 : List Loc), t.heap = H1 → s.vm.Alike t.vm → post r u → B u t → H.size ≤ H1.size → (∀ q : Nat, q < H.size → ¬ A1 q → H1[q]? = H[q]?) → va_S A0 H0 H1 locs1 → W p l e R s m args below meth c H1 locs1 (cells + mc) (slots + ms) Q (F0 m (pc + 5) ls (.float r :: rest))) : W p l e R s m args below meth c H locs cells slots Q (F0 m pc ls st0) := by
  intro T hT X
  rcases hr T hT X with ⟨v, st₀, t, T', L, h0, X', hL, e1, e2, ⟨⟨r, u, hv, hp, hb⟩, hF⟩, st⟩ | ⟨q, st₀, t, T', L, E, ce, h0, X', hL, e1, e2, ⟨u, hp, hb, hF⟩, hce, hcv, hcl, st⟩
  · cases hv
    obtain ⟨k1, k2, k3⟩ := vx_keep h0 e1 hS hA hf hL hF
    obtain ⟨t2, a1, b1⟩ := kk r u t T'.heap (locs ++ L) e1.symm (by rw [← e2]; exact X'.warmed.alike) hp hb k1 k2 k3 T' rfl X'
    exact ⟨t2, st t2 a1, b1⟩
  · obtain ⟨k1, k2, k3⟩ := vx_keep h0 e1 hS hAX hf hL hF
    obtain ⟨t2, a1, b1⟩ := kx E ce q u t T'.heap (locs ++ L) e1.symm (by rw [← e2]; exact X'.warmed.alike) hp hb k1 k2 k3 (by rw [e1]; exact hce) hcv hcl T' rfl X'
    exact ⟨t2, st.trans a1, b1⟩
theorem vx_callFd {S SX : Type} {post : UInt64 → S → Prop} {px : SX → Prop} {B : S → State → Prop} {BX : String → SX → State → Prop} {AX : Nat → Prop} (hr : vx_Run5 p l e R s m args below meth c H locs cells slots mc ms (F0 m pc ls st0) rest (va_Qd post B A1 a) (vx_X px BX AX) free) (hS : va_S A0 H0 H locs) (hA : ∀ q, q < H.size → A1 q → A0 q) (hf : ∀ q, free q → A0 q) (hAX : ∀ q, q < H.size → AX q → A0 q)
    (kx : ∀ (E : String) (ce : Cell) (q9 : Addr) (u : SX) (t : State) (H1 : Heap) (locs1 : List Loc), t.heap = H1 → s.vm.Alike t.vm → px u → BX E u t → H.size ≤ H1.size → (∀ q : Nat, q < H.size → ¬ AX q → H1[q]? = H[q]?) → va_S A0 H0 H1 locs1 → H1[q9]? = some ce → ce.vm = .none → s.vm.findClass E = some ce.cls → vx_W p l e R s m args below meth c H1 locs1 (cells + mc) (slots + ms) Q (F0 m pc ls rest) q9)
    (kk : ∀ (r : UInt64) (u : S) (t : State) (H1 : Heap) (locs1 : List Loc), t.heap = H1 → s.vm.Alike t.vm → post r u → B u t → H.size ≤ H1.size → (∀ q : Nat, q < H.size → ¬ A1 q → H1[q]? = H[q]?) → va_S A0 H0 H1 locs1 → W p l e R s m args below meth c H1 locs1 (cells + mc) (slots + ms) Q (F0 m (pc + 5) ls (.double r :: rest))) : W p l e R s m args below meth c H locs cells slots Q (F0 m pc ls st0) := by
  intro T hT X
  rcases hr T hT X with ⟨v, st₀, t, T', L, h0, X', hL, e1, e2, ⟨⟨r, u, hv, hp, hb⟩, hF⟩, st⟩ | ⟨q, st₀, t, T', L, E, ce, h0, X', hL, e1, e2, ⟨u, hp, hb, hF⟩, hce, hcv, hcl, st⟩
  · cases hv
    obtain ⟨k1, k2, k3⟩ := vx_keep h0 e1 hS hA hf hL hF
    obtain ⟨t2, a1, b1⟩ := kk r u t T'.heap (locs ++ L) e1.symm (by rw [← e2]; exact X'.warmed.alike) hp hb k1 k2 k3 T' rfl X'
    exact ⟨t2, st t2 a1, b1⟩
  · obtain ⟨k1, k2, k3⟩ := vx_keep h0 e1 hS hAX hf hL hF
    obtain ⟨t2, a1, b1⟩ := kx E ce q u t T'.heap (locs ++ L) e1.symm (by rw [← e2]; exact X'.warmed.alike) hp hb k1 k2 k3 (by rw [e1]; exact hce) hcv hcl T' rfl X'
    exact ⟨t2, st.trans a1, b1⟩
end
/-! ===== END ===== -/
/-! ===== BEGIN by an interface, a method with a table of its own that may throw (follows va_callIFW, va_runFW) ===== -/
section
variable {p : Program} {l : Launch} {e : Env} {R : Room} {s : State} {m : MethodId} {args : Array Value} {below : List Frame} {meth : Method} {c : Code} {H : Heap} {locs : List Loc} {cells slots : Nat}
theorem vx_callIFW {T : State} (X : Stand p l e R s m args below meth c T locs cells slots) (hexec : p.tables.exec = Jvm.exec) {own C : String} {index count : Nat} {x y : MethodName} {bytes : ByteArray} {maxL : Nat} {ret : Option FieldType} {hh : List (Nat × Nat × Nat × Nat)}
    (hown : s.vm.findClass own = some m.cls) (hlink : (Cond.methodLink own index x).before args s = true) (hdecl : (Cond.declares x).before args s = true) (hface : (Cond.interfaceMethod x.cls x.cls x.name x.desc).before args s = true)
    (hsel : (Cond.selects C x y).before args s = true) (hinst : (Cond.instanceMethod y).before args s = true) (hpub : (Cond.publicMethod y).before args s = true) (hunh : (Cond.unhidden C x.name x.desc).before args s = true)
    (hcast : (Cond.castable C x.cls).before args s = true) (hcode : (Cond.codeWith y bytes maxL ret hh).before args s = true) (hx : x.cls ≠ "java/lang/invoke/MethodHandle" ∧ x.cls ≠ "java/lang/invoke/VarHandle")
    {W : Nat} {Pre : Pt → Array Value → Prop} {Post : Pt → Array Value → Option Value → Pt → Prop} {PostX : Pt → Array Value → Addr → Pt → Prop} (hK : vx_Back l R p e below s args y 5 W Pre Post PostX)
    {b : Addr} {cellB : Cell} {kB : Class} (hcell : T.heap[b]? = some cellB) (hobj : cellB.vm.isStatics = false) (hcls : s.vm.findClass C = some cellB.cls) (hkB : s.vm.classes[cellB.cls]? = some kB)
    {g : JFrame} (hg : g.method = m) (hsize : g.locals.size = c.maxLocals) {argsL rest : List Value} (hlen : ∀ sig, parseMethodDescriptor x.desc = some sig → argsL.length = sig.parameters.length)
    (hstack : g.stack = argsL.reverse ++ .ref b :: rest) (hW : 2 * g.monitorRoom + (rest.map fun v => v.category).sum ≤ W) (hdg : decode c.code g.pc = .ok (.invokeinterface index count, 5))
    (hpre : ∀ vm₁, s.WarmedH vm₁ → Pre ⟨T.setVm vm₁, locs, cells, slots⟩ (Value.ref b :: argsL).toArray) :
    (∃ (v : Option Value) (vm₁ : Vm) (B : Pt), s.WarmedH vm₁ ∧ Stand p l e R s m args below meth c B.U B.locs B.cells B.slots ∧ Post ⟨T.setVm vm₁, locs, cells, slots⟩ (Value.ref b :: argsL).toArray v B ∧
      ∀ target, Steps p.tables e below (B.U.setTop { g with pc := g.pc + 5, stack := v.toList ++ rest }) target → Steps p.tables e below (T.setTop g) target) ∨
    (∃ (q : Addr) (vm₁ : Vm) (B : Pt), s.WarmedH vm₁ ∧ Stand p l e R s m args below meth c B.U B.locs B.cells B.slots ∧ PostX ⟨T.setVm vm₁, locs, cells, slots⟩ (Value.ref b :: argsL).toArray q B ∧
      Steps p.tables e below (T.setTop g) ((B.U.setTop { g with stack := rest }).pushFrame (.throwing q))) := by
  obtain ⟨r0, r, hn, hrm, hstR, hsigR⟩ := Cond.declares_spec hdecl
  obtain ⟨cL, kL, r1, hcL, hkL, hiL, hfoundL, hn1⟩ := Cond.interfaceMethod_spec hface
  cases hn.symm.trans hn1
  have hr0cls : r0.cls = cL := Option.some.inj ((findClass_of_methodNamed hn).symm.trans hcL)
  obtain ⟨hnameR, hdescR⟩ := name_of_methodNamed hn hrm
  obtain ⟨mk, methM, hnamed, hmethM, -, habM⟩ := Cond.instanceMethod_spec hinst
  obtain ⟨c2, r2, m2, q1, q2, q3, q4, -⟩ := Cond.selects_spec hsel
  cases hcls.symm.trans q1
  cases hfoundL.symm.trans q2
  cases hnamed.symm.trans q3
  have hselP : selectMethod e.platform s.vm cellB.cls r0 = .method mk := by rw [Launch.admits_selectMethod X.admits]; exact q4
  have hpubM : hasFlag methM.accessFlags Acc.public_ = true := Cond.publicMethod_spec hnamed hmethM hpub
  have hway : ((cellB.cls :: s.vm.superclasses cellB.cls).any fun k => (declaredIn s.vm r.name r.desc k).any fun (_, z) => z.isPrivate || z.isStatic) = false := by
    rw [hnameR, hdescR]; exact Cond.unhidden_spec hcls hunh
  obtain ⟨c3, t3, w1, w2, w3⟩ := Cond.castable_spec hcast
  cases hcls.symm.trans w1
  cases hcL.symm.trans w2
  obtain ⟨vm₁, X₁, hstep₁⟩ := X.invokeinterface hexec hown hlink hn hrm hstR (by rw [hr0cls]; exact hkL) hiL hx (a := b) (cell := cellB) (kcell := kB) hcell
    (fun z h => by rw [h] at hobj; cases hobj) hkB (by rw [hr0cls]; exact w3) hselP hmethM hway hpubM habM (g := g) hg (argsL := argsL) (rest := rest) (hlen _ hsigR) hstack hdg
  rcases hK m meth c ⟨T.setVm vm₁, locs, cells, slots⟩ { g with stack := rest } (.invokeinterface index count) mk (Value.ref b :: argsL).toArray X₁ hg hsize hdg hW (X₁.named hnamed) (hpre vm₁ X₁.warmed) with ⟨v, B, X', hpost, hsteps⟩ | ⟨q, B, X', hpost, hsteps⟩
  · exact Or.inl ⟨v, vm₁, B, X₁.warmed, X', hpost, fun target h => hstep₁ _ fun acts => by rw [doInvoke_state]; exact hsteps.trans h⟩
  · exact Or.inr ⟨q, vm₁, B, X₁.warmed, X', hpost, hstep₁ _ fun acts => by rw [doInvoke_state]; exact hsteps⟩
theorem vx_runFW {x y : MethodName} {bytes cc : ByteArray} {maxL nL mc ms n index count : Nat} {ret : Option FieldType} {hh : List (Nat × Nat × Nat × Nat)} {ws : List Cond} {rm : Room} {Pc : Array Value → State → Prop} {Qc : Array Value → State → Outcome → State → Prop} {XC : String → State → State → Prop} {free : Addr → Prop} {Ts : List Cond} {own C : String} {cC : ClassId} {b : Addr} {As rest : List Value} {g : JFrame}
    (hat : ClassAt s C cC) (S : CallFix p m c cc nL s args Ts own) (hM : vx_Met l y ws rm Pc Qc XC mc ms free) (cw : va_CIW R s args own C index x y bytes maxL ret hh ws rm mc ms n) (hp : PreV s H C b Pc As)
    (hg : g.method = m) (hn : As.length = n) (hsize : g.locals.size = nL) (hstack : g.stack = As.reverse ++ .ref b :: rest) (hW : 2 * g.monitorRoom + (rest.map fun v => v.category).sum ≤ 8) (hdg : decode cc g.pc = .ok (.invokeinterface index count, 5)) (hf : cells + mc ≤ R.cells ∧ slots + ms ≤ R.slots) :
    vx_Run5 p l e R s m args below meth c H locs cells slots mc ms g rest (Qc (Value.ref b :: As).toArray) XC free := by
  obtain ⟨hrc, hrs, hfr, hlo, hws, hcw⟩ := cw.back
  have hini := cw.init
  have hK : vx_Back l R p e below s args y 5 8 (PreOf R mc ms Pc) (PostOf Qc mc ms free) (vx_Post XC mc ms free) := vx_backW (hh := hh) (bytes := bytes) (maxL := maxL) (ret := ret) hM hp.1 hrc hrs hfr hlo hws hcw (fun a' U hW => word_at hW (Or.inl (by first | rfl | simp [Cond.onTables, Cond.keeps, Cond.steady])) hini)
  obtain ⟨hx, hb, hml, ho, -⟩ := S
  obtain ⟨-, ⟨cellB, hcB, hoB, hclB⟩, hPc⟩ := hp
  obtain ⟨hfc, kB, hkB, -⟩ := hat
  cases hfc.symm.trans hclB
  intro T hT X
  rcases vx_callIFW X hx (C := C) (hh := hh) (bytes := bytes) (maxL := maxL) (ret := ret) ho cw.link cw.decl cw.face cw.sel cw.inst cw.pub cw.unh cw.cast cw.code cw.notMH hK (by rw [hT]; exact hcB) hoB hclB hkB hg (hsize.trans hml.symm) (argsL := As) (rest := rest) (fun sig h => hn.trans (cw.len sig h)) hstack hW (by rw [hb]; exact hdg)
    (fun vm₁ hW₁ => ⟨hf.1, hf.2, hPc (T.setVm vm₁) hT hW₁⟩) with ⟨v, vm₁, ⟨U', l2, c2, s2⟩, hW₁, X', ⟨g', mk, t, L, e1, e2, hq, h1, hL, h2, h3⟩, st⟩ | ⟨q, vm₁, ⟨U', l2, c2, s2⟩, hW₁, X', ⟨g', mk, t, L, E, ce, e1, e2, hq, hce, hcv, hcl, h1, hL, h2, h3⟩, st⟩
  · dsimp only [Pt.U, Pt.locs, Pt.cells, Pt.slots] at X' e1 e2 h1 h2 h3 st
    subst h1; subst h2; subst h3
    exact Or.inl ⟨v, (T.setVm vm₁).calling g' mk (Value.ref b :: As).toArray, t, U', L, hT, X', hL, e1, e2, hq, st⟩
  · dsimp only [Pt.U, Pt.locs, Pt.cells, Pt.slots] at X' e1 e2 h1 h2 h3 st hcl
    subst h1; subst h2; subst h3
    exact Or.inr ⟨q, (T.setVm vm₁).calling g' mk (Value.ref b :: As).toArray, t, U', L, E, ce, hT, X', hL, e1, e2, hq, hce, hcv, vx_cls hW₁ hcl, st⟩
end
/-! ===== END ===== -/
/-! ===== BEGIN .. of methods that hand back an object of the pool ===== -/
section
variable {p : Program} {l : Launch} {e : Env} {R : Room} {s : State} {m : MethodId} {args : Array Value} {below : List Frame} {meth : Method} {c : Code} {H : Heap} {locs : List Loc} {cells slots : Nat} {Q : State → Prop}
variable {mc ms : Nat} {free : Addr → Prop} {A0 A1 : Nat → Prop} {H0 : Heap} {a : Array Value} {pc : Nat} {ls : Array Slot} {st0 rest : List Value}
theorem vx_callq {S SX : Type} {post : Option Nat → S → Prop} {px : SX → Prop} {B : S → State → Prop} {BX : String → SX → State → Prop} {AX : Nat → Prop} (hr : vx_Run p l e R s m args below meth c H locs cells slots mc ms (F0 m pc ls st0) rest (va_Qq post B A1 a) (vx_X px BX AX) free) (hS : va_S A0 H0 H locs) (hA : ∀ q, q < H.size → A1 q → A0 q) (hf : ∀ q, free q → A0 q) (hAX : ∀ q, q < H.size → AX q → A0 q)
    (kx : ∀ (E : String) (ce : Cell) (q9 : Addr) (u : SX) (t : State) (H1 : Heap) (locs1 : List Loc), t.heap = H1 → s.vm.Alike t.vm → px u → BX E u t → H.size ≤ H1.size → (∀ q : Nat, q < H.size → ¬ AX q → H1[q]? = H[q]?) → va_S A0 H0 H1 locs1 → H1[q9]? = some ce → ce.vm = .none → s.vm.findClass E = some ce.cls → vx_W p l e R s m args below meth c H1 locs1 (cells + mc) (slots + ms) Q (F0 m pc ls rest) q9)
    (kk : ∀ (r : Option Nat) (u : S) (t : State) (H1 : Heap) (locs1 : List Loc), t.heap = H1 → s.vm.Alike t.vm → post r u → B u t → H.size ≤ H1.size → (∀ q : Nat, q < H.size → ¬ A1 q → H1[q]? = H[q]?) → va_S A0 H0 H1 locs1 → W p l e R s m args below meth c H1 locs1 (cells + mc) (slots + ms) Q (F0 m (pc + 3) ls (va_rf r :: rest))) : W p l e R s m args below meth c H locs cells slots Q (F0 m pc ls st0) := by
  intro T hT X
  rcases hr T hT X with ⟨v, st₀, t, T', L, h0, X', hL, e1, e2, ⟨⟨r, u, hv, hp, hb⟩, hF⟩, st⟩ | ⟨q, st₀, t, T', L, E, ce, h0, X', hL, e1, e2, ⟨u, hp, hb, hF⟩, hce, hcv, hcl, st⟩
  · cases hv
    obtain ⟨k1, k2, k3⟩ := vx_keep h0 e1 hS hA hf hL hF
    obtain ⟨t2, a1, b1⟩ := kk r u t T'.heap (locs ++ L) e1.symm (by rw [← e2]; exact X'.warmed.alike) hp hb k1 k2 k3 T' rfl X'
    exact ⟨t2, st t2 a1, b1⟩
  · obtain ⟨k1, k2, k3⟩ := vx_keep h0 e1 hS hAX hf hL hF
    obtain ⟨t2, a1, b1⟩ := kx E ce q u t T'.heap (locs ++ L) e1.symm (by rw [← e2]; exact X'.warmed.alike) hp hb k1 k2 k3 (by rw [e1]; exact hce) hcv hcl T' rfl X'
    exact ⟨t2, st.trans a1, b1⟩
end
/-! ===== END ===== -/
/-! ===== BEGIN .. a constant ===== -/
section
variable {p : Program} {l : Launch} {e : Env} {R : Room} {s : State} {m : MethodId} {args : Array Value} {below : List Frame} {meth : Method} {c : Code} {H : Heap} {locs : List Loc} {cells slots : Nat} {Q : State → Prop}
variable {mc ms : Nat} {free : Addr → Prop} {A0 A1 : Nat → Prop} {H0 : Heap} {a : Array Value} {pc : Nat} {ls : Array Slot} {st0 rest : List Value}
theorem vx_calle {ad : Nat → Nat} {S SX : Type} {post : Option Nat → S → Prop} {px : SX → Prop} {B : S → State → Prop} {BX : String → SX → State → Prop} {AX : Nat → Prop} (hr : vx_Run p l e R s m args below meth c H locs cells slots mc ms (F0 m pc ls st0) rest (va_Qe ad post B A1 a) (vx_X px BX AX) free) (hS : va_S A0 H0 H locs) (hA : ∀ q, q < H.size → A1 q → A0 q) (hf : ∀ q, free q → A0 q) (hAX : ∀ q, q < H.size → AX q → A0 q)
    (kx : ∀ (E : String) (ce : Cell) (q9 : Addr) (u : SX) (t : State) (H1 : Heap) (locs1 : List Loc), t.heap = H1 → s.vm.Alike t.vm → px u → BX E u t → H.size ≤ H1.size → (∀ q : Nat, q < H.size → ¬ AX q → H1[q]? = H[q]?) → va_S A0 H0 H1 locs1 → H1[q9]? = some ce → ce.vm = .none → s.vm.findClass E = some ce.cls → vx_W p l e R s m args below meth c H1 locs1 (cells + mc) (slots + ms) Q (F0 m pc ls rest) q9)
    (kk : ∀ (r : Option Nat) (u : S) (t : State) (H1 : Heap) (locs1 : List Loc), t.heap = H1 → s.vm.Alike t.vm → post r u → B u t → H.size ≤ H1.size → (∀ q : Nat, q < H.size → ¬ A1 q → H1[q]? = H[q]?) → va_S A0 H0 H1 locs1 → W p l e R s m args below meth c H1 locs1 (cells + mc) (slots + ms) Q (F0 m (pc + 3) ls (va_re ad r :: rest))) : W p l e R s m args below meth c H locs cells slots Q (F0 m pc ls st0) := by
  intro T hT X
  rcases hr T hT X with ⟨v, st₀, t, T', L, h0, X', hL, e1, e2, ⟨⟨r, u, hv, hp, hb⟩, hF⟩, st⟩ | ⟨q, st₀, t, T', L, E, ce, h0, X', hL, e1, e2, ⟨u, hp, hb, hF⟩, hce, hcv, hcl, st⟩
  · cases hv
    obtain ⟨k1, k2, k3⟩ := vx_keep h0 e1 hS hA hf hL hF
    obtain ⟨t2, a1, b1⟩ := kk r u t T'.heap (locs ++ L) e1.symm (by rw [← e2]; exact X'.warmed.alike) hp hb k1 k2 k3 T' rfl X'
    exact ⟨t2, st t2 a1, b1⟩
  · obtain ⟨k1, k2, k3⟩ := vx_keep h0 e1 hS hAX hf hL hF
    obtain ⟨t2, a1, b1⟩ := kx E ce q u t T'.heap (locs ++ L) e1.symm (by rw [← e2]; exact X'.warmed.alike) hp hb k1 k2 k3 (by rw [e1]; exact hce) hcv hcl T' rfl X'
    exact ⟨t2, st.trans a1, b1⟩
end
/-! ===== END ===== -/
/-! ===== BEGIN .. by an interface, an object ===== -/
section
variable {p : Program} {l : Launch} {e : Env} {R : Room} {s : State} {m : MethodId} {args : Array Value} {below : List Frame} {meth : Method} {c : Code} {H : Heap} {locs : List Loc} {cells slots : Nat} {Q : State → Prop}
variable {mc ms : Nat} {free : Addr → Prop} {A0 A1 : Nat → Prop} {H0 : Heap} {a : Array Value} {pc : Nat} {ls : Array Slot} {st0 rest : List Value}
theorem vx_callFq {S SX : Type} {post : Option Nat → S → Prop} {px : SX → Prop} {B : S → State → Prop} {BX : String → SX → State → Prop} {AX : Nat → Prop} (hr : vx_Run5 p l e R s m args below meth c H locs cells slots mc ms (F0 m pc ls st0) rest (va_Qq post B A1 a) (vx_X px BX AX) free) (hS : va_S A0 H0 H locs) (hA : ∀ q, q < H.size → A1 q → A0 q) (hf : ∀ q, free q → A0 q) (hAX : ∀ q, q < H.size → AX q → A0 q)
    (kx : ∀ (E : String) (ce : Cell) (q9 : Addr) (u : SX) (t : State) (H1 : Heap) (locs1 : List Loc), t.heap = H1 → s.vm.Alike t.vm → px u → BX E u t → H.size ≤ H1.size → (∀ q : Nat, q < H.size → ¬ AX q → H1[q]? = H[q]?) → va_S A0 H0 H1 locs1 → H1[q9]? = some ce → ce.vm = .none → s.vm.findClass E = some ce.cls → vx_W p l e R s m args below meth c H1 locs1 (cells + mc) (slots + ms) Q (F0 m pc ls rest) q9)
    (kk : ∀ (r : Option Nat) (u : S) (t : State) (H1 : Heap) (locs1 : List Loc), t.heap = H1 → s.vm.Alike t.vm → post r u → B u t → H.size ≤ H1.size → (∀ q : Nat, q < H.size → ¬ A1 q → H1[q]? = H[q]?) → va_S A0 H0 H1 locs1 → W p l e R s m args below meth c H1 locs1 (cells + mc) (slots + ms) Q (F0 m (pc + 5) ls (va_rf r :: rest))) : W p l e R s m args below meth c H locs cells slots Q (F0 m pc ls st0) := by
  intro T hT X
  rcases hr T hT X with ⟨v, st₀, t, T', L, h0, X', hL, e1, e2, ⟨⟨r, u, hv, hp, hb⟩, hF⟩, st⟩ | ⟨q, st₀, t, T', L, E, ce, h0, X', hL, e1, e2, ⟨u, hp, hb, hF⟩, hce, hcv, hcl, st⟩
  · cases hv
    obtain ⟨k1, k2, k3⟩ := vx_keep h0 e1 hS hA hf hL hF
    obtain ⟨t2, a1, b1⟩ := kk r u t T'.heap (locs ++ L) e1.symm (by rw [← e2]; exact X'.warmed.alike) hp hb k1 k2 k3 T' rfl X'
    exact ⟨t2, st t2 a1, b1⟩
  · obtain ⟨k1, k2, k3⟩ := vx_keep h0 e1 hS hAX hf hL hF
    obtain ⟨t2, a1, b1⟩ := kx E ce q u t T'.heap (locs ++ L) e1.symm (by rw [← e2]; exact X'.warmed.alike) hp hb k1 k2 k3 (by rw [e1]; exact hce) hcv hcl T' rfl X'
    exact ⟨t2, st.trans a1, b1⟩
end
/-! ===== END ===== -/
/-! ===== BEGIN .. by an interface, a constant ===== -/
section
variable {p : Program} {l : Launch} {e : Env} {R : Room} {s : State} {m : MethodId} {args : Array Value} {below : List Frame} {meth : Method} {c : Code} {H : Heap} {locs : List Loc} {cells slots : Nat} {Q : State → Prop}
variable {mc ms : Nat} {free : Addr → Prop} {A0 A1 : Nat → Prop} {H0 : Heap} {a : Array Value} {pc : Nat} {ls : Array Slot} {st0 rest : List Value}
theorem vx_callFe {ad : Nat → Nat} {S SX : Type} {post : Option Nat → S → Prop} {px : SX → Prop} {B : S → State → Prop} {BX : String → SX → State → Prop} {AX : Nat → Prop} (hr : vx_Run5 p l e R s m args below meth c H locs cells slots mc ms (F0 m pc ls st0) rest (va_Qe ad post B A1 a) (vx_X px BX AX) free) (hS : va_S A0 H0 H locs) (hA : ∀ q, q < H.size → A1 q → A0 q) (hf : ∀ q, free q → A0 q) (hAX : ∀ q, q < H.size → AX q → A0 q)
    (kx : ∀ (E : String) (ce : Cell) (q9 : Addr) (u : SX) (t : State) (H1 : Heap) (locs1 : List Loc), t.heap = H1 → s.vm.Alike t.vm → px u → BX E u t → H.size ≤ H1.size → (∀ q : Nat, q < H.size → ¬ AX q → H1[q]? = H[q]?) → va_S A0 H0 H1 locs1 → H1[q9]? = some ce → ce.vm = .none → s.vm.findClass E = some ce.cls → vx_W p l e R s m args below meth c H1 locs1 (cells + mc) (slots + ms) Q (F0 m pc ls rest) q9)
    (kk : ∀ (r : Option Nat) (u : S) (t : State) (H1 : Heap) (locs1 : List Loc), t.heap = H1 → s.vm.Alike t.vm → post r u → B u t → H.size ≤ H1.size → (∀ q : Nat, q < H.size → ¬ A1 q → H1[q]? = H[q]?) → va_S A0 H0 H1 locs1 → W p l e R s m args below meth c H1 locs1 (cells + mc) (slots + ms) Q (F0 m (pc + 5) ls (va_re ad r :: rest))) : W p l e R s m args below meth c H locs cells slots Q (F0 m pc ls st0) := by
  intro T hT X
  rcases hr T hT X with ⟨v, st₀, t, T', L, h0, X', hL, e1, e2, ⟨⟨r, u, hv, hp, hb⟩, hF⟩, st⟩ | ⟨q, st₀, t, T', L, E, ce, h0, X', hL, e1, e2, ⟨u, hp, hb, hF⟩, hce, hcv, hcl, st⟩
  · cases hv
    obtain ⟨k1, k2, k3⟩ := vx_keep h0 e1 hS hA hf hL hF
    obtain ⟨t2, a1, b1⟩ := kk r u t T'.heap (locs ++ L) e1.symm (by rw [← e2]; exact X'.warmed.alike) hp hb k1 k2 k3 T' rfl X'
    exact ⟨t2, st t2 a1, b1⟩
  · obtain ⟨k1, k2, k3⟩ := vx_keep h0 e1 hS hAX hf hL hF
    obtain ⟨t2, a1, b1⟩ := kx E ce q u t T'.heap (locs ++ L) e1.symm (by rw [← e2]; exact X'.warmed.alike) hp hb k1 k2 k3 (by rw [e1]; exact hce) hcv hcl T' rfl X'
    exact ⟨t2, st.trans a1, b1⟩
end
/-! ===== END ===== -/
/-! ===== BEGIN what the machine throws by itself: null at a field, at athrow ===== -/
section VXM2
variable {p : Program} {l : Launch} {e : Env} {R : Room} {s : State} {m : MethodId} {args : Array Value} {below : List Frame} {meth : Method} {c : Code} {H : Heap} {locs : List Loc} {cells slots : Nat}
variable {Q : State → Prop} {cc : ByteArray} {pc : Nat} {ls : Array Slot} {rest : List Value}
theorem vx_getfN {D cl tys} {own ref C : String} {T : u_T} {N ci index : Nat} {Ts : List Cond} (hexec : p.tables.exec = Jvm.exec) (hb : c.code = cc) (hts : ∀ w ∈ Ts, w.before args s = true) (hin : ∀ w ∈ u_ws C T N, w ∈ Ts) (hown : s.vm.findClass own = some m.cls) (hK : va_K D cl tys s) (hc : cl[ci]? = some (C, T, N)) (k : Nat) (hk : k < N) (hlink : (Cond.fieldLink own index ref (T k).2.1 (T k).2.2.1).before args s = true) (hsame : ∀ x, s.fieldFound? (T k).1 (T k).2.1 (T k).2.2.1 = some x → s.fieldFound? ref (T k).2.1 (T k).2.2.1 = some x) (hdg : decode cc pc = .ok (.getfield index, 3)) (kk : vx_NoteN p l e R s m args below meth c H locs cells slots Q (F0 m pc ls rest)) : W p l e R s m args below meth c H locs cells slots Q (F0 m pc ls (.null :: rest)) := by
  obtain ⟨hS, hfc, kC, hkC, -⟩ := hK.1 ci _ hc
  obtain ⟨cf, kf, fi, f, hi, -⟩ := hS k hk
  intro U hU X
  obtain ⟨vm', X1, st1⟩ := X.getfieldNull hexec hown hlink (hsame _ hi) (u_facts hfc hkC (u_lays hts hin hk) hi).1 (g := F0 m pc ls (.null :: rest)) rfl (rest := rest) rfl (by rw [hb]; exact hdg)
  obtain ⟨t, st, q⟩ := kk (U.setVm vm') hU X1
  exact ⟨t, st1 t st, q⟩
theorem vx_getfNN {D cl tys} {own ref C host : String} {T : u_T} {N ci index : Nat} {Ts : List Cond} (hexec : p.tables.exec = Jvm.exec) (hb : c.code = cc) (hts : ∀ w ∈ Ts, w.before args s = true) (hin : ∀ w ∈ u_ws C T N, w ∈ Ts) (hown : s.vm.findClass own = some m.cls) (hK : va_K D cl tys s) (hc : cl[ci]? = some (C, T, N)) (k : Nat) (hk : k < N) (hlink : (Cond.fieldLinkNest own index ref (T k).2.1 (T k).2.2.1 host).before args s = true) (hsame : ∀ x, s.fieldFound? (T k).1 (T k).2.1 (T k).2.2.1 = some x → s.fieldFound? ref (T k).2.1 (T k).2.2.1 = some x) (hdg : decode cc pc = .ok (.getfield index, 3)) (kk : vx_NoteN p l e R s m args below meth c H locs cells slots Q (F0 m pc ls rest)) : W p l e R s m args below meth c H locs cells slots Q (F0 m pc ls (.null :: rest)) := by
  obtain ⟨hS, hfc, kC, hkC, -⟩ := hK.1 ci _ hc
  obtain ⟨cf, kf, fi, f, hi, -⟩ := hS k hk
  intro U hU X
  obtain ⟨vm', X1, st1⟩ := X.getfieldNullNest hexec hown hlink (hsame _ hi) (u_facts hfc hkC (u_lays hts hin hk) hi).1 (g := F0 m pc ls (.null :: rest)) rfl (rest := rest) rfl (by rw [hb]; exact hdg)
  obtain ⟨t, st, q⟩ := kk (U.setVm vm') hU X1
  exact ⟨t, st1 t st, q⟩
theorem vx_putfN {D cl tys} {own ref C : String} {T : u_T} {N ci index : Nat} {Ts : List Cond} (hexec : p.tables.exec = Jvm.exec) (hb : c.code = cc) (hts : ∀ w ∈ Ts, w.before args s = true) (hin : ∀ w ∈ u_ws C T N, w ∈ Ts) (hown : s.vm.findClass own = some m.cls) (hK : va_K D cl tys s) (hc : cl[ci]? = some (C, T, N)) (k : Nat) (hk : k < N) (hlink : (Cond.fieldLink own index ref (T k).2.1 (T k).2.2.1).before args s = true) (hsame : ∀ x, s.fieldFound? (T k).1 (T k).2.1 (T k).2.2.1 = some x → s.fieldFound? ref (T k).2.1 (T k).2.2.1 = some x) (hfin : (T k).2.2.2 = false) {v : Value} (hdg : decode cc pc = .ok (.putfield index, 3)) (kk : vx_NoteN p l e R s m args below meth c H locs cells slots Q (F0 m pc ls rest)) : W p l e R s m args below meth c H locs cells slots Q (F0 m pc ls (v :: .null :: rest)) := by
  obtain ⟨hS, hfc, kC, hkC, -⟩ := hK.1 ci _ hc
  obtain ⟨cf, kf, fi, f, hi, -⟩ := hS k hk
  have hlay := hts _ (hin _ (u_in_lay hk))
  unfold u_lay at hlay
  rw [if_neg (by rw [hfin]; decide)] at hlay
  obtain ⟨c9, k9, cf9, kf9, fi9, f9, -, -, hi9, hst9, hnf9, -⟩ := Cond.lays_spec hlay
  cases hi.symm.trans hi9
  intro U hU X
  obtain ⟨vm', X1, st1⟩ := X.putfieldNull hexec hown hlink (hsame _ hi) hst9 hnf9 (g := F0 m pc ls (v :: .null :: rest)) rfl (v := v) (rest := rest) rfl (by rw [hb]; exact hdg)
  obtain ⟨t, st, q⟩ := kk (U.setVm vm') hU X1
  exact ⟨t, st1 t st, q⟩
theorem vx_putfNN {D cl tys} {own ref C host : String} {T : u_T} {N ci index : Nat} {Ts : List Cond} (hexec : p.tables.exec = Jvm.exec) (hb : c.code = cc) (hts : ∀ w ∈ Ts, w.before args s = true) (hin : ∀ w ∈ u_ws C T N, w ∈ Ts) (hown : s.vm.findClass own = some m.cls) (hK : va_K D cl tys s) (hc : cl[ci]? = some (C, T, N)) (k : Nat) (hk : k < N) (hlink : (Cond.fieldLinkNest own index ref (T k).2.1 (T k).2.2.1 host).before args s = true) (hsame : ∀ x, s.fieldFound? (T k).1 (T k).2.1 (T k).2.2.1 = some x → s.fieldFound? ref (T k).2.1 (T k).2.2.1 = some x) (hfin : (T k).2.2.2 = false) {v : Value} (hdg : decode cc pc = .ok (.putfield index, 3)) (kk : vx_NoteN p l e R s m args below meth c H locs cells slots Q (F0 m pc ls rest)) : W p l e R s m args below meth c H locs cells slots Q (F0 m pc ls (v :: .null :: rest)) := by
  obtain ⟨hS, hfc, kC, hkC, -⟩ := hK.1 ci _ hc
  obtain ⟨cf, kf, fi, f, hi, -⟩ := hS k hk
  have hlay := hts _ (hin _ (u_in_lay hk))
  unfold u_lay at hlay
  rw [if_neg (by rw [hfin]; decide)] at hlay
  obtain ⟨c9, k9, cf9, kf9, fi9, f9, -, -, hi9, hst9, hnf9, -⟩ := Cond.lays_spec hlay
  cases hi.symm.trans hi9
  intro U hU X
  obtain ⟨vm', X1, st1⟩ := X.putfieldNullNest hexec hown hlink (hsame _ hi) hst9 hnf9 (g := F0 m pc ls (v :: .null :: rest)) rfl (v := v) (rest := rest) rfl (by rw [hb]; exact hdg)
  obtain ⟨t, st, q⟩ := kk (U.setVm vm') hU X1
  exact ⟨t, st1 t st, q⟩
theorem vx_athrowN (hexec : p.tables.exec = Jvm.exec) (hb : c.code = cc) (hdg : decode cc pc = .ok (.athrow, 1)) (k : vx_NoteN p l e R s m args below meth c H locs cells slots Q (F0 m pc ls rest)) : W p l e R s m args below meth c H locs cells slots Q (F0 m pc ls (.null :: rest)) := by
  intro T hT X
  obtain ⟨t, st, q⟩ := k T hT X
  exact ⟨t, X.athrowNull hexec (g := F0 m pc ls (.null :: rest)) rfl (rest := rest) rfl (by rw [hb]; exact hdg) t st, q⟩
end VXM2
/-! ===== END ===== -/
end
section
/-! Tables as trees of comparisons. -/
def re_br {α : Type} (k : Nat) (a b : Nat → α) (y : Nat) : α := bif Nat.blt y k then a y else b y
def re_lf {α : Type} (k : Nat) (a : Option α) (y : Nat) : Option α := bif Nat.beq y k then a else none
/-- the length of an instruction, 0 for those that tell their own -/
def re_len : Instr → Nat
  | .bipush _ | .iload _ | .lload _ | .aload _ | .istore _ | .lstore _ | .astore _ | .ldc _ | .newarray _ => 2
  | .sipush _ | .iinc _ _ | .if_acmp _ _ | .if_icmp _ _ | .ifCond _ _ | .ifnull _ | .ifnonnull _ | .goto _ | .ldc_w _ | .ldc2_w _ => 3
  | .getfield _ | .putfield _ | .getstatic _ | .new _ | .anewarray _ | .checkcast _ | .invokevirtual _ | .invokespecial _ | .invokestatic _ => 3
  | .invokeinterface _ _ => 5
  | .tableswitch _ _ _ _ | .lookupswitch _ _ => 0
  | _ => 1
theorem re_rng {n : Nat} {f : Nat → Bool} (h : (List.range n).all f = true) {k : Nat} (hk : k < n) : f k = true := List.all_eq_true.mp h k (List.mem_range.mpr hk)
def re_ckI (b : ByteArray) (f : Nat → Option Instr) (pc : Nat) : Bool := match f pc with
  | none => true
  | some i => match decode b pc with
    | .ok r => decide (r.1 = i) && (Nat.beq (re_len i) 0 || Nat.beq r.2 (re_len i))
    | .error _ => false
theorem re_ckI_ok {b : ByteArray} {f : Nat → Option Instr} {pc : Nat} {ins : Instr} (h : re_ckI b f pc = true) (hf : f pc = some ins) : ∃ len, decode b pc = .ok (ins, len) ∧ (re_len ins = 0 ∨ len = re_len ins) := by
  unfold re_ckI at h
  rw [hf] at h
  dsimp only at h
  split at h
  next r hr =>
    obtain ⟨i, len⟩ := r
    simp only [Bool.and_eq_true, Bool.or_eq_true, decide_eq_true_eq] at h
    obtain ⟨rfl, h2⟩ := h
    refine ⟨len, hr, ?_⟩
    rcases h2 with h2 | h2
    · exact Or.inl (Nat.eq_of_beq_eq_true h2)
    · exact Or.inr (Nat.eq_of_beq_eq_true h2)
  next => cases h
theorem re_big {n m : Nat} {f : Nat → Bool} (hn : Nat.ble n (50 * m) = true) (h : ∀ i, i < m → (List.range 50).all (fun k => f (k + 50 * i)) = true) : (List.range n).all f = true := by
  refine List.all_eq_true.mpr (fun k hk => ?_)
  have hk := List.mem_range.mp hk
  have hn := Nat.le_of_ble_eq_true hn
  have h1 := re_rng (h (k / 50) (Nat.div_lt_of_lt_mul (by omega))) (Nat.mod_lt k (by omega : 50 > 0))
  have h1 : f (k % 50 + 50 * (k / 50)) = true := h1
  rwa [Nat.mod_add_div] at h1
end
section
/-! The tables of this claim, written by a program out of its Statement. -/
def rT0 : u_T := fun k => match k with
  | 0 => ("Cellbrook", "pile", "[LCellbrook$Expr;", true)
  | 1 => ("Cellbrook", "height", "I", false)
  | 2 => ("Cellbrook", "current", "LCellbrook$Version;", true)
  | 3 => ("Cellbrook", "made", "I", false)
  | 4 => ("Cellbrook", "links", "LCellbrook$Links;", true)
  | 5 => ("Cellbrook", "resources", "LCellbrook$Resources;", true)
  | 6 => ("Cellbrook", "sheet", "LCellbrook$Sheet;", true)
  | 7 => ("Cellbrook", "anew", "LCellbrook$Sheet;", true)
  | 8 => ("Cellbrook", "runningMode", "I", false)
  | 9 => ("Cellbrook", "branches", "[LCellbrook$Version;", true)
  | _ => ("Cellbrook", "branchCount", "I", false)
def rU0 : Nat → FieldType := fun k => match k with
  | 0 => .array (.object "Cellbrook$Expr")
  | 1 => .int
  | 2 => .object "Cellbrook$Version"
  | 3 => .int
  | 4 => .object "Cellbrook$Links"
  | 5 => .object "Cellbrook$Resources"
  | 6 => .object "Cellbrook$Sheet"
  | 7 => .object "Cellbrook$Sheet"
  | 8 => .int
  | 9 => .array (.object "Cellbrook$Version")
  | _ => .int
def rT1 : u_T := fun k => match k with
  | 0 => ("Cellbrook$Version", "there", "[Z", true)
  | _ => ("Cellbrook$Version", "codes", "[LCellbrook$Code;", true)
def rU1 : Nat → FieldType := fun k => match k with
  | 0 => .array .boolean
  | _ => .array (.object "Cellbrook$Code")
def rT2 : u_T := fun k => match k with
  | 0 => ("Cellbrook$Code", "count", "I", false)
  | 1 => ("Cellbrook$Code", "names", "[I", true)
  | _ => ("Cellbrook$Code", "exprs", "[LCellbrook$Expr;", true)
def rU2 : Nat → FieldType := fun k => match k with
  | 0 => .int
  | 1 => .array .int
  | _ => .array (.object "Cellbrook$Expr")
def rT3 : u_T := fun k => match k with
  | 0 => ("Cellbrook$Links", "version", "LCellbrook$Version;", true)
  | 1 => ("Cellbrook$Links", "definers", "[I", true)
  | 2 => ("Cellbrook$Links", "owner", "[I", true)
  | 3 => ("Cellbrook$Links", "read", "[I", true)
  | 4 => ("Cellbrook$Links", "direct", "[I", true)
  | 5 => ("Cellbrook$Links", "needs", "[I", true)
  | _ => ("Cellbrook$Links", "wrong", "[I", true)
def rU3 : Nat → FieldType := fun k => match k with
  | 0 => .object "Cellbrook$Version"
  | 1 => .array .int
  | 2 => .array .int
  | 3 => .array .int
  | 4 => .array .int
  | 5 => .array .int
  | _ => .array .int
def rT4 : u_T := fun k => match k with
  | 0 => ("Cellbrook$Resources", "inputs", "[J", true)
  | _ => ("Cellbrook$Resources", "seed", "I", false)
def rU4 : Nat → FieldType := fun k => match k with
  | 0 => .array .long
  | _ => .int
def rT5 : u_T := fun k => match k with
  | 0 => ("Cellbrook$Result", "error", "I", false)
  | 1 => ("Cellbrook$Result", "runs", "I", false)
  | 2 => ("Cellbrook$Result", "count", "I", false)
  | 3 => ("Cellbrook$Result", "names", "[I", true)
  | 4 => ("Cellbrook$Result", "numbers", "[J", true)
  | 5 => ("Cellbrook$Result", "functions", "[LCellbrook$Node;", true)
  | 6 => ("Cellbrook$Result", "code", "LCellbrook$Code;", true)
  | 7 => ("Cellbrook$Result", "inputs", "[J", true)
  | 8 => ("Cellbrook$Result", "seed", "I", false)
  | 9 => ("Cellbrook$Result", "seenKinds", "[I", true)
  | _ => ("Cellbrook$Result", "seenMarks", "[J", true)
def rU5 : Nat → FieldType := fun k => match k with
  | 0 => .int
  | 1 => .int
  | 2 => .int
  | 3 => .array .int
  | 4 => .array .long
  | 5 => .array (.object "Cellbrook$Node")
  | 6 => .object "Cellbrook$Code"
  | 7 => .array .long
  | 8 => .int
  | 9 => .array .int
  | _ => .array .long
def rT6 : u_T := fun k => match k with
  | 0 => ("Cellbrook$Store", "results", "[LCellbrook$Result;", true)
  | 1 => ("Cellbrook$Store", "lastMade", "LCellbrook$Node;", false)
  | 2 => ("Cellbrook$Store", "free", "LCellbrook$Node;", false)
  | 3 => ("Cellbrook$Store", "pending", "LCellbrook$Node;", false)
  | 4 => ("Cellbrook$Store", "handedOut", "I", false)
  | _ => ("Cellbrook$Store", "lasting", "I", false)
def rU6 : Nat → FieldType := fun k => match k with
  | 0 => .array (.object "Cellbrook$Result")
  | 1 => .object "Cellbrook$Node"
  | 2 => .object "Cellbrook$Node"
  | 3 => .object "Cellbrook$Node"
  | 4 => .int
  | _ => .int
def rT7 : u_T := fun k => match k with
  | 0 => ("Cellbrook$Machine", "store", "LCellbrook$Store;", true)
  | 1 => ("Cellbrook$Machine", "resources", "LCellbrook$Resources;", true)
  | 2 => ("Cellbrook$Machine", "parts", "[LCellbrook$Expr;", true)
  | 3 => ("Cellbrook$Machine", "scopes", "[LCellbrook$Node;", true)
  | 4 => ("Cellbrook$Machine", "ending", "[Z", true)
  | 5 => ("Cellbrook$Machine", "open", "I", false)
  | 6 => ("Cellbrook$Machine", "numbers", "[J", true)
  | 7 => ("Cellbrook$Machine", "functions", "[LCellbrook$Node;", true)
  | 8 => ("Cellbrook$Machine", "height", "I", false)
  | 9 => ("Cellbrook$Machine", "running", "I", false)
  | 10 => ("Cellbrook$Machine", "steps", "I", false)
  | 11 => ("Cellbrook$Machine", "draws", "I", false)
  | 12 => ("Cellbrook$Machine", "known", "LCellbrook$Node;", false)
  | _ => ("Cellbrook$Machine", "functionsFound", "J", false)
def rU7 : Nat → FieldType := fun k => match k with
  | 0 => .object "Cellbrook$Store"
  | 1 => .object "Cellbrook$Resources"
  | 2 => .array (.object "Cellbrook$Expr")
  | 3 => .array (.object "Cellbrook$Node")
  | 4 => .array .boolean
  | 5 => .int
  | 6 => .array .long
  | 7 => .array (.object "Cellbrook$Node")
  | 8 => .int
  | 9 => .int
  | 10 => .int
  | 11 => .int
  | 12 => .object "Cellbrook$Node"
  | _ => .long
def rT8 : u_T := fun k => match k with
  | 0 => ("Cellbrook$Sheet", "version", "LCellbrook$Version;", true)
  | 1 => ("Cellbrook$Sheet", "links", "LCellbrook$Links;", true)
  | 2 => ("Cellbrook$Sheet", "machine", "LCellbrook$Machine;", true)
  | 3 => ("Cellbrook$Sheet", "results", "[LCellbrook$Result;", true)
  | _ => ("Cellbrook$Sheet", "start", "I", true)
def rU8 : Nat → FieldType := fun k => match k with
  | 0 => .object "Cellbrook$Version"
  | 1 => .object "Cellbrook$Links"
  | 2 => .object "Cellbrook$Machine"
  | 3 => .array (.object "Cellbrook$Result")
  | _ => .int
def rT9 : u_T := fun k => match k with
  | 0 => ("Cellbrook$Expr", "sort", "I", true)
  | 1 => ("Cellbrook$Expr", "which", "I", true)
  | 2 => ("Cellbrook$Expr", "number", "J", true)
  | 3 => ("Cellbrook$Expr", "first", "LCellbrook$Expr;", true)
  | 4 => ("Cellbrook$Expr", "second", "LCellbrook$Expr;", true)
  | 5 => ("Cellbrook$Expr", "third", "LCellbrook$Expr;", true)
  | 6 => ("Cellbrook$Expr", "parts", "I", true)
  | 7 => ("Cellbrook$Expr", "free", "I", true)
  | 8 => ("Cellbrook$Expr", "mentioned", "I", true)
  | 9 => ("Cellbrook$Expr", "inputs", "I", true)
  | _ => ("Cellbrook$Expr", "draws", "Z", true)
def rU9 : Nat → FieldType := fun k => match k with
  | 0 => .int
  | 1 => .int
  | 2 => .long
  | 3 => .object "Cellbrook$Expr"
  | 4 => .object "Cellbrook$Expr"
  | 5 => .object "Cellbrook$Expr"
  | 6 => .int
  | 7 => .int
  | 8 => .int
  | 9 => .int
  | _ => .boolean
def rT10 : u_T := fun k => match k with
  | 0 => ("Cellbrook$Node", "code", "LCellbrook$Expr;", false)
  | 1 => ("Cellbrook$Node", "name", "I", false)
  | 2 => ("Cellbrook$Node", "number", "J", false)
  | 3 => ("Cellbrook$Node", "function", "LCellbrook$Node;", false)
  | 4 => ("Cellbrook$Node", "outer", "LCellbrook$Node;", false)
  | 5 => ("Cellbrook$Node", "inUse", "Z", false)
  | 6 => ("Cellbrook$Node", "madeBefore", "LCellbrook$Node;", false)
  | _ => ("Cellbrook$Node", "next", "LCellbrook$Node;", false)
def rU10 : Nat → FieldType := fun k => match k with
  | 0 => .object "Cellbrook$Expr"
  | 1 => .int
  | 2 => .long
  | 3 => .object "Cellbrook$Node"
  | 4 => .object "Cellbrook$Node"
  | 5 => .boolean
  | 6 => .object "Cellbrook$Node"
  | _ => .object "Cellbrook$Node"
def rCl : List vw_C := [("Cellbrook", rT0, 11), ("Cellbrook$Version", rT1, 2), ("Cellbrook$Code", rT2, 3), ("Cellbrook$Links", rT3, 7), ("Cellbrook$Resources", rT4, 2), ("Cellbrook$Result", rT5, 11), ("Cellbrook$Store", rT6, 6), ("Cellbrook$Machine", rT7, 14), ("Cellbrook$Sheet", rT8, 5), ("Cellbrook$Expr", rT9, 11), ("Cellbrook$Node", rT10, 8)]
def rEl : List FieldType := [.int, .long, .boolean, .object "Cellbrook$Expr", .object "Cellbrook$Code", .object "Cellbrook$Result", .object "Cellbrook$Node", .object "Cellbrook$Version"]
def rE (j : Nat) : FieldType := rEl.getD j .int
def rXn (x : Nat) : String := (["java/lang/IllegalStateException", "java/lang/IllegalArgumentException", "java/lang/IndexOutOfBoundsException"] : List String).getD x ""
def rSL : List (String × Nat × String) := [("Cellbrook", 262, "the pile has 20 exprs"), ("Cellbrook", 256, "no such name"), ("Cellbrook", 258, "no such input"), ("Cellbrook", 264, "too few exprs on the pile"), ("Cellbrook", 269, "more than 30 parts"), ("Cellbrook", 97, "no such sign"), ("Cellbrook", 107, "there were 12 cells"), ("Cellbrook", 254, "no such cell"), ("Cellbrook", 135, "the pile is empty"), ("Cellbrook", 145, "the cell has 4 definitions"), ("Cellbrook", 151, "the cell does not define the name"), ("Cellbrook", 174, "the other name is in use"), ("Cellbrook", 191, "no such mode"), ("Cellbrook", 202, "there are 4 branches"), ("Cellbrook", 260, "no such branch"), ("Cellbrook", 213, "there never was such a cell"), ("Cellbrook", 237, "no number is kept of the name")]
def rTW : List Cond := [.castable "java/lang/IllegalStateException" "java/lang/IllegalStateException", .castable "java/lang/IndexOutOfBoundsException" "java/lang/IndexOutOfBoundsException", .castable "java/lang/IllegalArgumentException" "java/lang/IllegalArgumentException", .methodLinkNest "Cellbrook$Version" 21 ⟨"Cellbrook$Code", "<init>", "()V"⟩ "Cellbrook", .methodLinkNest "Cellbrook" 33 ⟨"Cellbrook$Resources", "<init>", "()V"⟩ "Cellbrook", .methodLinkNest "Cellbrook" 40 ⟨"Cellbrook$Result", "<init>", "()V"⟩ "Cellbrook", .methodLinkNest "Cellbrook$Result" 31 ⟨"Cellbrook$Code", "<init>", "()V"⟩ "Cellbrook", .methodLinkNest "Cellbrook$Code" 29 ⟨"Cellbrook$Expr", "same", "(LCellbrook$Expr;LCellbrook$Expr;)Z"⟩ "Cellbrook", .methodLinkNest "Cellbrook$Store" 21 ⟨"Cellbrook$Node", "<init>", "()V"⟩ "Cellbrook", .methodLinkNest "Cellbrook$Code" 50 ⟨"Cellbrook$Expr", "countFree", "(LCellbrook$Expr;I)I"⟩ "Cellbrook", .methodLinkNest "Cellbrook$Code" 54 ⟨"Cellbrook$Expr", "exchanged", "(LCellbrook$Expr;II)LCellbrook$Expr;"⟩ "Cellbrook"]
def rTWat : List Nat := [375, 505, 548, 73, 144, 164, 171, 639, 738, 919, 927]
def rCn (c : Nat) : String := (["Cellbrook", "Cellbrook$Version", "Cellbrook$Code", "Cellbrook$Links", "Cellbrook$Resources", "Cellbrook$Result", "Cellbrook$Store", "Cellbrook$Machine", "Cellbrook$Sheet", "CellbrookLaw", "Cellbrook$Expr", "Cellbrook$Node", "java/lang/Integer"] : List String).getD c ""
end
section
def rYn : Nat → MethodName := fun y => (bif Nat.blt y 1408 then (re_br 256 (re_br 33 (re_br 16 (re_br 8 (re_br 4 (re_br 2 (re_br 1 (re_lf 0 (some ⟨"Cellbrook", "<init>", "()V"⟩)) (re_lf 1 (some ⟨"Cellbrook", "number", "(J)I"⟩))) (re_br 3 (re_lf 2 (some ⟨"Cellbrook", "needRoomOnPile", "()V"⟩)) (re_lf 3 (some ⟨"Cellbrook", "putOnPile", "(LCellbrook$Expr;)I"⟩)))) (re_br 6 (re_br 5 (re_lf 4 (some ⟨"Cellbrook", "name", "(I)I"⟩)) (re_lf 5 (some ⟨"Cellbrook", "needName", "(I)V"⟩))) (re_br 7 (re_lf 6 (some ⟨"Cellbrook", "input", "(I)I"⟩)) (re_lf 7 (some ⟨"Cellbrook", "needInput", "(I)V"⟩))))) (re_br 12 (re_br 10 (re_br 9 (re_lf 8 (some ⟨"Cellbrook", "draw", "()I"⟩)) (re_lf 9 (some ⟨"Cellbrook", "needParts", "(I)V"⟩))) (re_br 11 (re_lf 10 (some ⟨"Cellbrook", "takeFromPile", "()LCellbrook$Expr;"⟩)) (re_lf 11 (some ⟨"Cellbrook", "two", "(I)I"⟩)))) (re_br 14 (re_br 13 (re_lf 12 (some ⟨"Cellbrook", "choose", "()I"⟩)) (re_lf 13 (some ⟨"Cellbrook", "local", "(I)I"⟩))) (re_br 15 (re_lf 14 (some ⟨"Cellbrook", "function", "(I)I"⟩)) (re_lf 15 (some ⟨"Cellbrook", "call", "()I"⟩)))))) (re_br 24 (re_br 20 (re_br 18 (re_br 17 (re_lf 16 (some ⟨"Cellbrook", "cell", "()I"⟩)) (re_lf 17 (some ⟨"Cellbrook", "cellsAtOnce", "()I"⟩))) (re_br 19 (re_lf 18 (some ⟨"Cellbrook", "define", "(II)I"⟩)) (re_lf 19 (some ⟨"Cellbrook", "needCell", "(I)V"⟩)))) (re_br 22 (re_br 21 (re_lf 20 (some ⟨"Cellbrook", "drop", "(II)I"⟩)) (re_lf 21 (some ⟨"Cellbrook", "remove", "(I)I"⟩))) (re_br 23 (re_lf 22 (some ⟨"Cellbrook", "rename", "(II)I"⟩)) (re_lf 23 (some ⟨"Cellbrook", "setInput", "(IJ)J"⟩))))) (re_br 28 (re_br 26 (re_br 25 (re_lf 24 (some ⟨"Cellbrook", "seed", "(I)I"⟩)) (re_lf 25 (some ⟨"Cellbrook", "mode", "(I)I"⟩))) (re_br 27 (re_lf 26 (some ⟨"Cellbrook", "run", "(I)I"⟩)) (re_lf 27 (some ⟨"Cellbrook", "keep", "()I"⟩)))) (re_br 30 (re_br 29 (re_lf 28 (some ⟨"Cellbrook", "take", "(II)Z"⟩)) (re_lf 29 (some ⟨"Cellbrook", "neededBranch", "(I)LCellbrook$Version;"⟩))) (re_br 31 (re_lf 30 (some ⟨"Cellbrook", "differ", "(I)I"⟩)) (re_br 32 (re_lf 31 (some ⟨"Cellbrook", "error", "(I)I"⟩)) (re_lf 32 (some ⟨"Cellbrook", "isStale", "(I)Z"⟩)))))))) (re_br 130 (re_br 65 (re_br 37 (re_br 35 (re_br 34 (re_lf 33 (some ⟨"Cellbrook", "kind", "(II)I"⟩)) (re_lf 34 (some ⟨"Cellbrook", "value", "(II)J"⟩))) (re_br 36 (re_lf 35 (some ⟨"Cellbrook", "valueAnew", "(II)J"⟩)) (re_lf 36 (some ⟨"Cellbrook", "errorAnew", "(I)I"⟩)))) (re_br 39 (re_br 38 (re_lf 37 (some ⟨"Cellbrook", "reads", "(I)I"⟩)) (re_lf 38 (some ⟨"Cellbrook", "slice", "(I)I"⟩))) (re_br 64 (re_lf 39 (some ⟨"Cellbrook", "runs", "(I)I"⟩)) (re_lf 64 (some ⟨"Cellbrook$Version", "<init>", "()V"⟩))))) (re_br 69 (re_br 67 (re_br 66 (re_lf 65 (some ⟨"Cellbrook$Version", "cells", "()I"⟩)) (re_lf 66 (some ⟨"Cellbrook$Version", "takeAway", "(I)V"⟩))) (re_br 68 (re_lf 67 (some ⟨"Cellbrook$Version", "mentions", "(I)Z"⟩)) (re_lf 68 (some ⟨"Cellbrook$Version", "exchange", "(II)I"⟩)))) (re_br 71 (re_br 70 (re_lf 69 (some ⟨"Cellbrook$Version", "copy", "(LCellbrook$Version;)V"⟩)) (re_lf 70 (some ⟨"Cellbrook$Version", "copyCell", "(LCellbrook$Version;I)V"⟩))) (re_br 128 (re_lf 71 (some ⟨"Cellbrook$Version", "sameCell", "(LCellbrook$Version;I)Z"⟩)) (re_br 129 (re_lf 128 (some ⟨"Cellbrook$Code", "<init>", "()V"⟩)) (re_lf 129 (some ⟨"Cellbrook$Code", "namesRead", "()I"⟩))))))) (re_br 138 (re_br 134 (re_br 132 (re_br 131 (re_lf 130 (some ⟨"Cellbrook$Code", "namesDefined", "()I"⟩)) (re_lf 131 (some ⟨"Cellbrook$Code", "sameAs", "(LCellbrook$Code;)Z"⟩))) (re_br 133 (re_lf 132 (some ⟨"Cellbrook$Code", "draws", "()Z"⟩)) (re_lf 133 (some ⟨"Cellbrook$Code", "inputsUsed", "()I"⟩)))) (re_br 136 (re_br 135 (re_lf 134 (some ⟨"Cellbrook$Code", "copy", "(LCellbrook$Code;)V"⟩)) (re_lf 135 (some ⟨"Cellbrook$Code", "placeOf", "(I)I"⟩))) (re_br 137 (re_lf 136 (some ⟨"Cellbrook$Code", "put", "(ILCellbrook$Expr;)V"⟩)) (re_lf 137 (some ⟨"Cellbrook$Code", "takeOut", "(I)V"⟩))))) (re_br 193 (re_br 140 (re_br 139 (re_lf 138 (some ⟨"Cellbrook$Code", "clear", "()V"⟩)) (re_lf 139 (some ⟨"Cellbrook$Code", "namesMentioned", "()I"⟩))) (re_br 192 (re_lf 140 (some ⟨"Cellbrook$Code", "exchange", "(II)I"⟩)) (re_lf 192 (some ⟨"Cellbrook$Links", "<init>", "(LCellbrook$Version;)V"⟩)))) (re_br 195 (re_br 194 (re_lf 193 (some ⟨"Cellbrook$Links", "follow", "()V"⟩)) (re_lf 194 (some ⟨"Cellbrook$Links", "followDefinitions", "()V"⟩))) (re_br 196 (re_lf 195 (some ⟨"Cellbrook$Links", "followReads", "()V"⟩)) (re_br 197 (re_lf 196 (some ⟨"Cellbrook$Links", "followNeeds", "()V"⟩)) (re_lf 197 (some ⟨"Cellbrook$Links", "wrongOf", "(I)I"⟩))))))))) (re_br 463 (re_br 387 (re_br 327 (re_br 323 (re_br 321 (re_br 320 (re_lf 256 (some ⟨"Cellbrook$Resources", "<init>", "()V"⟩)) (re_lf 320 (some ⟨"Cellbrook$Result", "<init>", "()V"⟩))) (re_br 322 (re_lf 321 (some ⟨"Cellbrook$Result", "madeFrom", "(LCellbrook$Code;LCellbrook$Resources;)Z"⟩)) (re_lf 322 (some ⟨"Cellbrook$Result", "kindOf", "(I)I"⟩)))) (re_br 325 (re_br 324 (re_lf 323 (some ⟨"Cellbrook$Result", "placeOf", "(I)I"⟩)) (re_lf 324 (some ⟨"Cellbrook$Result", "markOf", "(I)J"⟩))) (re_br 326 (re_lf 325 (some ⟨"Cellbrook$Result", "sawTheSame", "(IIJ)Z"⟩)) (re_lf 326 (some ⟨"Cellbrook$Result", "fail", "(I)V"⟩))))) (re_br 331 (re_br 329 (re_br 328 (re_lf 327 (some ⟨"Cellbrook$Result", "clearKept", "()V"⟩)) (re_lf 328 (some ⟨"Cellbrook$Result", "begin", "(LCellbrook$Code;LCellbrook$Resources;)V"⟩))) (re_br 330 (re_lf 329 (some ⟨"Cellbrook$Result", "see", "(IIJ)V"⟩)) (re_lf 330 (some ⟨"Cellbrook$Result", "functionOf", "(I)LCellbrook$Node;"⟩)))) (re_br 384 (re_br 332 (re_lf 331 (some ⟨"Cellbrook$Result", "add", "(IJLCellbrook$Node;)V"⟩)) (re_lf 332 (some ⟨"Cellbrook$Result", "forget", "()V"⟩))) (re_br 385 (re_lf 384 (some ⟨"Cellbrook$Store", "<init>", "([LCellbrook$Result;)V"⟩)) (re_br 386 (re_lf 385 (some ⟨"Cellbrook$Store", "tidy", "()V"⟩)) (re_lf 386 (some ⟨"Cellbrook$Store", "reach", "(LCellbrook$Node;)V"⟩))))))) (re_br 454 (re_br 450 (re_br 448 (re_br 388 (re_lf 387 (some ⟨"Cellbrook$Store", "takeBack", "()V"⟩)) (re_lf 388 (some ⟨"Cellbrook$Store", "hand", "(IJLCellbrook$Node;LCellbrook$Node;)LCellbrook$Node;"⟩))) (re_br 449 (re_lf 448 (some ⟨"Cellbrook$Machine", "<init>", "(LCellbrook$Store;LCellbrook$Resources;)V"⟩)) (re_lf 449 (some ⟨"Cellbrook$Machine", "start", "(I)V"⟩)))) (re_br 452 (re_br 451 (re_lf 450 (some ⟨"Cellbrook$Machine", "know", "(IJLCellbrook$Node;)V"⟩)) (re_lf 451 (some ⟨"Cellbrook$Machine", "find", "(LCellbrook$Expr;)Z"⟩))) (re_br 453 (re_lf 452 (some ⟨"Cellbrook$Machine", "later", "(LCellbrook$Expr;LCellbrook$Node;Z)V"⟩)) (re_lf 453 (some ⟨"Cellbrook$Machine", "end", "(LCellbrook$Expr;LCellbrook$Node;)Z"⟩))))) (re_br 458 (re_br 456 (re_br 455 (re_lf 454 (some ⟨"Cellbrook$Machine", "endDraw", "()Z"⟩)) (re_lf 455 (some ⟨"Cellbrook$Machine", "give", "(JLCellbrook$Node;)Z"⟩))) (re_br 457 (re_lf 456 (some ⟨"Cellbrook$Machine", "endTwo", "(I)Z"⟩)) (re_lf 457 (some ⟨"Cellbrook$Machine", "endChoice", "(LCellbrook$Expr;LCellbrook$Node;)Z"⟩)))) (re_br 460 (re_br 459 (re_lf 458 (some ⟨"Cellbrook$Machine", "endLocal", "(LCellbrook$Expr;LCellbrook$Node;)Z"⟩)) (re_lf 459 (some ⟨"Cellbrook$Machine", "endCall", "()Z"⟩))) (re_br 461 (re_lf 460 (some ⟨"Cellbrook$Machine", "begin", "(LCellbrook$Expr;LCellbrook$Node;)Z"⟩)) (re_br 462 (re_lf 461 (some ⟨"Cellbrook$Machine", "giveNamed", "(ILCellbrook$Node;)Z"⟩)) (re_lf 462 (some ⟨"Cellbrook$Machine", "giveFunction", "(LCellbrook$Expr;LCellbrook$Node;)Z"⟩)))))))) (re_br 579 (re_br 518 (re_br 514 (re_br 512 (re_br 464 (re_lf 463 (some ⟨"Cellbrook$Machine", "foundNumber", "()J"⟩)) (re_lf 464 (some ⟨"Cellbrook$Machine", "foundFunction", "()LCellbrook$Node;"⟩))) (re_br 513 (re_lf 512 (some ⟨"Cellbrook$Sheet", "<init>", "(LCellbrook$Version;LCellbrook$Links;LCellbrook$Machine;[LCellbrook$Result;I)V"⟩)) (re_lf 513 (some ⟨"Cellbrook$Sheet", "settle", "(I)I"⟩)))) (re_br 516 (re_br 515 (re_lf 514 (some ⟨"Cellbrook$Sheet", "isStaleByItself", "(I)Z"⟩)) (re_lf 515 (some ⟨"Cellbrook$Sheet", "resultOf", "(I)LCellbrook$Result;"⟩))) (re_br 517 (re_lf 516 (some ⟨"Cellbrook$Sheet", "source", "(I)LCellbrook$Result;"⟩)) (re_lf 517 (some ⟨"Cellbrook$Sheet", "kindIn", "(LCellbrook$Result;I)I"⟩))))) (re_br 522 (re_br 520 (re_br 519 (re_lf 518 (some ⟨"Cellbrook$Sheet", "markIn", "(LCellbrook$Result;I)J"⟩)) (re_lf 519 (some ⟨"Cellbrook$Sheet", "runOne", "(I)I"⟩))) (re_br 521 (re_lf 520 (some ⟨"Cellbrook$Sheet", "readAll", "(ILCellbrook$Result;)Z"⟩)) (re_lf 521 (some ⟨"Cellbrook$Sheet", "forget", "(I)V"⟩)))) (re_br 576 (re_br 523 (re_lf 522 (some ⟨"Cellbrook$Sheet", "staleCells", "()I"⟩)) (re_lf 523 (some ⟨"Cellbrook$Sheet", "forgetAll", "()V"⟩))) (re_br 577 (re_lf 576 (some ⟨"CellbrookLaw", "cell", "([II)I"⟩)) (re_br 578 (re_lf 577 (some ⟨"CellbrookLaw", "some", "(II)I"⟩)) (re_lf 578 (some ⟨"CellbrookLaw", "all", "(LCellbrook;I)J"⟩))))))) (re_br 587 (re_br 583 (re_br 581 (re_br 580 (re_lf 579 (some ⟨"CellbrookLaw", "call", "(LCellbrook;III)J"⟩)) (re_lf 580 (some ⟨"CellbrookLaw", "does", "(LCellbrook;III)J"⟩))) (re_br 582 (re_lf 581 (some ⟨"CellbrookLaw", "both", "(LCellbrook;LCellbrook;III)J"⟩)) (re_lf 582 (some ⟨"CellbrookLaw", "sound", "(LCellbrook;III)Z"⟩)))) (re_br 585 (re_br 584 (re_lf 583 (some ⟨"CellbrookLaw", "isPlain", "(LCellbrook;II)Z"⟩)) (re_lf 584 (some ⟨"CellbrookLaw", "exprs", "(LCellbrook;LCellbrook;[II)Z"⟩))) (re_br 586 (re_lf 585 (some ⟨"CellbrookLaw", "cells", "(LCellbrook;LCellbrook;[III)Z"⟩)) (re_lf 586 (some ⟨"CellbrookLaw", "others", "(LCellbrook;LCellbrook;[III)Z"⟩))))) (re_br 642 (re_br 640 (re_br 588 (re_lf 587 (some ⟨"CellbrookLaw", "refused", "(LCellbrook;I)Z"⟩)) (re_lf 588 (some ⟨"CellbrookLaw", "law", "([I)Z"⟩))) (re_br 641 (re_lf 640 (some ⟨"Cellbrook$Expr", "<init>", "(IIJLCellbrook$Expr;LCellbrook$Expr;LCellbrook$Expr;)V"⟩)) (re_lf 641 (some ⟨"Cellbrook$Expr", "same", "(LCellbrook$Expr;LCellbrook$Expr;)Z"⟩)))) (re_br 644 (re_br 643 (re_lf 642 (some ⟨"Cellbrook$Expr", "countFree", "(LCellbrook$Expr;I)I"⟩)) (re_lf 643 (some ⟨"Cellbrook$Expr", "hasFree", "(I)Z"⟩))) (re_br 704 (re_lf 644 (some ⟨"Cellbrook$Expr", "exchanged", "(LCellbrook$Expr;II)LCellbrook$Expr;"⟩)) (re_br 768 (re_lf 704 (some ⟨"Cellbrook$Node", "<init>", "()V"⟩)) (re_lf 768 (some ⟨"java/lang/Integer", "bitCount", "(I)I"⟩)))))))))) y else none).getD ⟨rCn (Nat.div y 64), "", ""⟩
def rYb : Nat → ByteArray := fun y => ((re_br 256 (re_br 33 (re_br 16 (re_br 8 (re_br 4 (re_br 2 (re_br 1 (re_lf 0 (some prog_1_method_1_code)) (re_lf 1 (some prog_1_method_2_code))) (re_br 3 (re_lf 2 (some prog_1_method_36_code)) (re_lf 3 (some prog_1_method_38_code)))) (re_br 6 (re_br 5 (re_lf 4 (some prog_1_method_3_code)) (re_lf 5 (some prog_1_method_33_code))) (re_br 7 (re_lf 6 (some prog_1_method_4_code)) (re_lf 7 (some prog_1_method_34_code))))) (re_br 12 (re_br 10 (re_br 9 (re_lf 8 (some prog_1_method_5_code)) (re_lf 9 (some prog_1_method_37_code))) (re_br 11 (re_lf 10 (some prog_1_method_39_code)) (re_lf 11 (some prog_1_method_6_code)))) (re_br 14 (re_br 13 (re_lf 12 (some prog_1_method_7_code)) (re_lf 13 (some prog_1_method_8_code))) (re_br 15 (re_lf 14 (some prog_1_method_9_code)) (re_lf 15 (some prog_1_method_10_code)))))) (re_br 24 (re_br 20 (re_br 18 (re_br 17 (re_lf 16 (some prog_1_method_11_code)) (re_lf 17 (some prog_1_method_40_code))) (re_br 19 (re_lf 18 (some prog_1_method_12_code)) (re_lf 19 (some prog_1_method_32_code)))) (re_br 22 (re_br 21 (re_lf 20 (some prog_1_method_13_code)) (re_lf 21 (some prog_1_method_14_code))) (re_br 23 (re_lf 22 (some prog_1_method_15_code)) (re_lf 23 (some prog_1_method_16_code))))) (re_br 28 (re_br 26 (re_br 25 (re_lf 24 (some prog_1_method_17_code)) (re_lf 25 (some prog_1_method_18_code))) (re_br 27 (re_lf 26 (some prog_1_method_19_code)) (re_lf 27 (some prog_1_method_20_code)))) (re_br 30 (re_br 29 (re_lf 28 (some prog_1_method_21_code)) (re_lf 29 (some prog_1_method_35_code))) (re_br 31 (re_lf 30 (some prog_1_method_22_code)) (re_br 32 (re_lf 31 (some prog_1_method_23_code)) (re_lf 32 (some prog_1_method_24_code)))))))) (re_br 130 (re_br 65 (re_br 37 (re_br 35 (re_br 34 (re_lf 33 (some prog_1_method_25_code)) (re_lf 34 (some prog_1_method_26_code))) (re_br 36 (re_lf 35 (some prog_1_method_27_code)) (re_lf 36 (some prog_1_method_28_code)))) (re_br 39 (re_br 38 (re_lf 37 (some prog_1_method_29_code)) (re_lf 38 (some prog_1_method_30_code))) (re_br 64 (re_lf 39 (some prog_1_method_31_code)) (re_lf 64 (some prog_11_method_1_code))))) (re_br 69 (re_br 67 (re_br 66 (re_lf 65 (some prog_11_method_2_code)) (re_lf 66 (some prog_11_method_3_code))) (re_br 68 (re_lf 67 (some prog_11_method_7_code)) (re_lf 68 (some prog_11_method_8_code)))) (re_br 71 (re_br 70 (re_lf 69 (some prog_11_method_5_code)) (re_lf 70 (some prog_11_method_4_code))) (re_br 128 (re_lf 71 (some prog_11_method_6_code)) (re_br 129 (re_lf 128 (some prog_2_method_1_code)) (re_lf 129 (some prog_2_method_9_code))))))) (re_br 138 (re_br 134 (re_br 132 (re_br 131 (re_lf 130 (some prog_2_method_8_code)) (re_lf 131 (some prog_2_method_7_code))) (re_br 133 (re_lf 132 (some prog_2_method_12_code)) (re_lf 133 (some prog_2_method_11_code)))) (re_br 136 (re_br 135 (re_lf 134 (some prog_2_method_6_code)) (re_lf 135 (some prog_2_method_2_code))) (re_br 137 (re_lf 136 (some prog_2_method_3_code)) (re_lf 137 (some prog_2_method_4_code))))) (re_br 193 (re_br 140 (re_br 139 (re_lf 138 (some prog_2_method_5_code)) (re_lf 139 (some prog_2_method_10_code))) (re_br 192 (re_lf 140 (some prog_2_method_13_code)) (re_lf 192 (some prog_4_method_1_code)))) (re_br 195 (re_br 194 (re_lf 193 (some prog_4_method_2_code)) (re_lf 194 (some prog_4_method_3_code))) (re_br 196 (re_lf 195 (some prog_4_method_4_code)) (re_br 197 (re_lf 196 (some prog_4_method_5_code)) (re_lf 197 (some prog_4_method_6_code))))))))) (re_br 463 (re_br 387 (re_br 327 (re_br 323 (re_br 321 (re_br 320 (re_lf 256 (some prog_7_method_1_code)) (re_lf 320 (some prog_8_method_1_code))) (re_br 322 (re_lf 321 (some prog_8_method_8_code)) (re_lf 322 (some prog_8_method_11_code)))) (re_br 325 (re_br 324 (re_lf 323 (some prog_8_method_10_code)) (re_lf 324 (some prog_8_method_12_code))) (re_br 326 (re_lf 325 (some prog_8_method_7_code)) (re_lf 326 (some prog_8_method_4_code))))) (re_br 331 (re_br 329 (re_br 328 (re_lf 327 (some prog_8_method_3_code)) (re_lf 328 (some prog_8_method_5_code))) (re_br 330 (re_lf 329 (some prog_8_method_6_code)) (re_lf 330 (some prog_8_method_13_code)))) (re_br 384 (re_br 332 (re_lf 331 (some prog_8_method_9_code)) (re_lf 332 (some prog_8_method_2_code))) (re_br 385 (re_lf 384 (some prog_10_method_1_code)) (re_br 386 (re_lf 385 (some prog_10_method_3_code)) (re_lf 386 (some prog_10_method_4_code))))))) (re_br 454 (re_br 450 (re_br 448 (re_br 388 (re_lf 387 (some prog_10_method_5_code)) (re_lf 388 (some prog_10_method_2_code))) (re_br 449 (re_lf 448 (some prog_5_method_1_code)) (re_lf 449 (some prog_5_method_2_code)))) (re_br 452 (re_br 451 (re_lf 450 (some prog_5_method_3_code)) (re_lf 451 (some prog_5_method_4_code))) (re_br 453 (re_lf 452 (some prog_5_method_7_code)) (re_lf 453 (some prog_5_method_12_code))))) (re_br 458 (re_br 456 (re_br 455 (re_lf 454 (some prog_5_method_13_code)) (re_lf 455 (some prog_5_method_8_code))) (re_br 457 (re_lf 456 (some prog_5_method_14_code)) (re_lf 457 (some prog_5_method_15_code)))) (re_br 460 (re_br 459 (re_lf 458 (some prog_5_method_16_code)) (re_lf 459 (some prog_5_method_17_code))) (re_br 461 (re_lf 460 (some prog_5_method_9_code)) (re_br 462 (re_lf 461 (some prog_5_method_10_code)) (re_lf 462 (some prog_5_method_11_code)))))))) (re_br 579 (re_br 518 (re_br 514 (re_br 512 (re_br 464 (re_lf 463 (some prog_5_method_5_code)) (re_lf 464 (some prog_5_method_6_code))) (re_br 513 (re_lf 512 (some prog_9_method_1_code)) (re_lf 513 (some prog_9_method_5_code)))) (re_br 516 (re_br 515 (re_lf 514 (some prog_9_method_7_code)) (re_lf 515 (some prog_9_method_2_code))) (re_br 517 (re_lf 516 (some prog_9_method_10_code)) (re_lf 517 (some prog_9_method_11_code))))) (re_br 522 (re_br 520 (re_br 519 (re_lf 518 (some prog_9_method_12_code)) (re_lf 519 (some prog_9_method_8_code))) (re_br 521 (re_lf 520 (some prog_9_method_9_code)) (re_lf 521 (some prog_9_method_3_code)))) (re_br 576 (re_br 523 (re_lf 522 (some prog_9_method_6_code)) (re_lf 523 (some prog_9_method_4_code))) (re_br 577 (re_lf 576 (some method_2_code)) (re_br 578 (re_lf 577 (some method_3_code)) (re_lf 578 (some method_6_code))))))) (re_br 587 (re_br 583 (re_br 581 (re_br 580 (re_lf 579 (some method_4_code)) (re_lf 580 (some method_5_code))) (re_br 582 (re_lf 581 (some method_7_code)) (re_lf 582 (some method_9_code)))) (re_br 585 (re_br 584 (re_lf 583 (some method_8_code)) (re_lf 584 (some method_10_code))) (re_br 586 (re_lf 585 (some method_11_code)) (re_lf 586 (some method_12_code))))) (re_br 642 (re_br 640 (re_br 588 (re_lf 587 (some method_13_code)) (re_lf 588 (some code))) (re_br 641 (re_lf 640 (some prog_3_method_1_code)) (re_lf 641 (some prog_3_method_3_code)))) (re_br 644 (re_br 643 (re_lf 642 (some prog_3_method_4_code)) (re_lf 643 (some prog_3_method_2_code))) (re_br 704 (re_lf 644 (some prog_3_method_5_code)) (re_br 768 (re_lf 704 (some prog_6_method_1_code)) (re_lf 768 (some prog_24_method_49_code)))))))))) y).getD ⟨#[]⟩
def rYl : Nat → Nat := fun y => ((re_br 256 (re_br 33 (re_br 16 (re_br 8 (re_br 4 (re_br 2 (re_br 1 (re_lf 0 (some 4)) (re_lf 1 (some 3))) (re_br 3 (re_lf 2 (some 1)) (re_lf 3 (some 2)))) (re_br 6 (re_br 5 (re_lf 4 (some 2)) (re_lf 5 (some 2))) (re_br 7 (re_lf 6 (some 2)) (re_lf 7 (some 2))))) (re_br 12 (re_br 10 (re_br 9 (re_lf 8 (some 1)) (re_lf 9 (some 4))) (re_br 11 (re_lf 10 (some 2)) (re_lf 11 (some 4)))) (re_br 14 (re_br 13 (re_lf 12 (some 4)) (re_lf 13 (some 4))) (re_br 15 (re_lf 14 (some 2)) (re_lf 15 (some 3)))))) (re_br 24 (re_br 20 (re_br 18 (re_br 17 (re_lf 16 (some 2)) (re_lf 17 (some 1))) (re_br 19 (re_lf 18 (some 4)) (re_lf 19 (some 2)))) (re_br 22 (re_br 21 (re_lf 20 (some 5)) (re_lf 21 (some 2))) (re_br 23 (re_lf 22 (some 4)) (re_lf 23 (some 6))))) (re_br 28 (re_br 26 (re_br 25 (re_lf 24 (some 3)) (re_lf 25 (some 3))) (re_br 27 (re_lf 26 (some 2)) (re_lf 27 (some 2)))) (re_br 30 (re_br 29 (re_lf 28 (some 4)) (re_lf 29 (some 3))) (re_br 31 (re_lf 30 (some 5)) (re_br 32 (re_lf 31 (some 2)) (re_lf 32 (some 2)))))))) (re_br 130 (re_br 65 (re_br 37 (re_br 35 (re_br 34 (re_lf 33 (some 3)) (re_lf 34 (some 4))) (re_br 36 (re_lf 35 (some 4)) (re_lf 36 (some 2)))) (re_br 39 (re_br 38 (re_lf 37 (some 2)) (re_lf 38 (some 2))) (re_br 64 (re_lf 39 (some 2)) (re_lf 64 (some 2))))) (re_br 69 (re_br 67 (re_br 66 (re_lf 65 (some 3)) (re_lf 66 (some 2))) (re_br 68 (re_lf 67 (some 3)) (re_lf 68 (some 5)))) (re_br 71 (re_br 70 (re_lf 69 (some 3)) (re_lf 70 (some 3))) (re_br 128 (re_lf 71 (some 3)) (re_br 129 (re_lf 128 (some 1)) (re_lf 129 (some 4))))))) (re_br 138 (re_br 134 (re_br 132 (re_br 131 (re_lf 130 (some 3)) (re_lf 131 (some 3))) (re_br 133 (re_lf 132 (some 2)) (re_lf 133 (some 3)))) (re_br 136 (re_br 135 (re_lf 134 (some 3)) (re_lf 135 (some 3))) (re_br 137 (re_lf 136 (some 4)) (re_lf 137 (some 3))))) (re_br 193 (re_br 140 (re_br 139 (re_lf 138 (some 2)) (re_lf 139 (some 3))) (re_br 192 (re_lf 140 (some 5)) (re_lf 192 (some 2)))) (re_br 195 (re_br 194 (re_lf 193 (some 2)) (re_lf 194 (some 5))) (re_br 196 (re_lf 195 (some 3)) (re_br 197 (re_lf 196 (some 3)) (re_lf 197 (some 5))))))))) (re_br 463 (re_br 387 (re_br 327 (re_br 323 (re_br 321 (re_br 320 (re_lf 256 (some 1)) (re_lf 320 (some 1))) (re_br 322 (re_lf 321 (some 5)) (re_lf 322 (some 3)))) (re_br 325 (re_br 324 (re_lf 323 (some 3)) (re_lf 324 (some 3))) (re_br 326 (re_lf 325 (some 5)) (re_lf 326 (some 2))))) (re_br 331 (re_br 329 (re_br 328 (re_lf 327 (some 2)) (re_lf 328 (some 4))) (re_br 330 (re_lf 329 (some 5)) (re_lf 330 (some 3)))) (re_br 384 (re_br 332 (re_lf 331 (some 5)) (re_lf 332 (some 1))) (re_br 385 (re_lf 384 (some 2)) (re_br 386 (re_lf 385 (some 4)) (re_lf 386 (some 2))))))) (re_br 454 (re_br 450 (re_br 448 (re_br 388 (re_lf 387 (some 2)) (re_lf 388 (some 7))) (re_br 449 (re_lf 448 (some 3)) (re_lf 449 (some 2)))) (re_br 452 (re_br 451 (re_lf 450 (some 5)) (re_lf 451 (some 4))) (re_br 453 (re_lf 452 (some 4)) (re_lf 453 (some 3))))) (re_br 458 (re_br 456 (re_br 455 (re_lf 454 (some 4)) (re_lf 455 (some 4))) (re_br 457 (re_lf 456 (some 6)) (re_lf 457 (some 3)))) (re_br 460 (re_br 459 (re_lf 458 (some 3)) (re_lf 459 (some 3))) (re_br 461 (re_lf 460 (some 3)) (re_br 462 (re_lf 461 (some 4)) (re_lf 462 (some 4)))))))) (re_br 579 (re_br 518 (re_br 514 (re_br 512 (re_br 464 (re_lf 463 (some 1)) (re_lf 464 (some 1))) (re_br 513 (re_lf 512 (some 6)) (re_lf 513 (some 7)))) (re_br 516 (re_br 515 (re_lf 514 (some 5)) (re_lf 515 (some 2))) (re_br 517 (re_lf 516 (some 3)) (re_lf 517 (some 3))))) (re_br 522 (re_br 520 (re_br 519 (re_lf 518 (some 3)) (re_lf 519 (some 5))) (re_br 521 (re_lf 520 (some 6)) (re_lf 521 (some 2)))) (re_br 576 (re_br 523 (re_lf 522 (some 5)) (re_lf 523 (some 2))) (re_br 577 (re_lf 576 (some 3)) (re_br 578 (re_lf 577 (some 2)) (re_lf 578 (some 6))))))) (re_br 587 (re_br 583 (re_br 581 (re_br 580 (re_lf 579 (some 5)) (re_lf 580 (some 4))) (re_br 582 (re_lf 581 (some 7)) (re_lf 582 (some 13)))) (re_br 585 (re_br 584 (re_lf 583 (some 6)) (re_lf 584 (some 10))) (re_br 586 (re_lf 585 (some 10)) (re_lf 586 (some 12))))) (re_br 642 (re_br 640 (re_br 588 (re_lf 587 (some 5)) (re_lf 588 (some 9))) (re_br 641 (re_lf 640 (some 11)) (re_lf 641 (some 2)))) (re_br 644 (re_br 643 (re_lf 642 (some 3)) (re_lf 643 (some 2))) (re_br 704 (re_lf 644 (some 4)) (re_br 768 (re_lf 704 (some 1)) (re_lf 768 (some 1)))))))))) y).getD 0
def rYr : Nat → Option FieldType := fun y => ((re_br 256 (re_br 33 (re_br 16 (re_br 8 (re_br 4 (re_br 2 (re_br 1 (re_lf 0 (some (none))) (re_lf 1 (some (some (.int))))) (re_br 3 (re_lf 2 (some (none))) (re_lf 3 (some (some (.int)))))) (re_br 6 (re_br 5 (re_lf 4 (some (some (.int)))) (re_lf 5 (some (none)))) (re_br 7 (re_lf 6 (some (some (.int)))) (re_lf 7 (some (none)))))) (re_br 12 (re_br 10 (re_br 9 (re_lf 8 (some (some (.int)))) (re_lf 9 (some (none)))) (re_br 11 (re_lf 10 (some (some (.object "Cellbrook$Expr")))) (re_lf 11 (some (some (.int)))))) (re_br 14 (re_br 13 (re_lf 12 (some (some (.int)))) (re_lf 13 (some (some (.int))))) (re_br 15 (re_lf 14 (some (some (.int)))) (re_lf 15 (some (some (.int)))))))) (re_br 24 (re_br 20 (re_br 18 (re_br 17 (re_lf 16 (some (some (.int)))) (re_lf 17 (some (some (.int))))) (re_br 19 (re_lf 18 (some (some (.int)))) (re_lf 19 (some (none))))) (re_br 22 (re_br 21 (re_lf 20 (some (some (.int)))) (re_lf 21 (some (some (.int))))) (re_br 23 (re_lf 22 (some (some (.int)))) (re_lf 23 (some (some (.long))))))) (re_br 28 (re_br 26 (re_br 25 (re_lf 24 (some (some (.int)))) (re_lf 25 (some (some (.int))))) (re_br 27 (re_lf 26 (some (some (.int)))) (re_lf 27 (some (some (.int)))))) (re_br 30 (re_br 29 (re_lf 28 (some (some (.boolean)))) (re_lf 29 (some (some (.object "Cellbrook$Version"))))) (re_br 31 (re_lf 30 (some (some (.int)))) (re_br 32 (re_lf 31 (some (some (.int)))) (re_lf 32 (some (some (.boolean)))))))))) (re_br 130 (re_br 65 (re_br 37 (re_br 35 (re_br 34 (re_lf 33 (some (some (.int)))) (re_lf 34 (some (some (.long))))) (re_br 36 (re_lf 35 (some (some (.long)))) (re_lf 36 (some (some (.int)))))) (re_br 39 (re_br 38 (re_lf 37 (some (some (.int)))) (re_lf 38 (some (some (.int))))) (re_br 64 (re_lf 39 (some (some (.int)))) (re_lf 64 (some (none)))))) (re_br 69 (re_br 67 (re_br 66 (re_lf 65 (some (some (.int)))) (re_lf 66 (some (none)))) (re_br 68 (re_lf 67 (some (some (.boolean)))) (re_lf 68 (some (some (.int)))))) (re_br 71 (re_br 70 (re_lf 69 (some (none))) (re_lf 70 (some (none)))) (re_br 128 (re_lf 71 (some (some (.boolean)))) (re_br 129 (re_lf 128 (some (none))) (re_lf 129 (some (some (.int))))))))) (re_br 138 (re_br 134 (re_br 132 (re_br 131 (re_lf 130 (some (some (.int)))) (re_lf 131 (some (some (.boolean))))) (re_br 133 (re_lf 132 (some (some (.boolean)))) (re_lf 133 (some (some (.int)))))) (re_br 136 (re_br 135 (re_lf 134 (some (none))) (re_lf 135 (some (some (.int))))) (re_br 137 (re_lf 136 (some (none))) (re_lf 137 (some (none)))))) (re_br 193 (re_br 140 (re_br 139 (re_lf 138 (some (none))) (re_lf 139 (some (some (.int))))) (re_br 192 (re_lf 140 (some (some (.int)))) (re_lf 192 (some (none))))) (re_br 195 (re_br 194 (re_lf 193 (some (none))) (re_lf 194 (some (none)))) (re_br 196 (re_lf 195 (some (none))) (re_br 197 (re_lf 196 (some (none))) (re_lf 197 (some (some (.int))))))))))) (re_br 463 (re_br 387 (re_br 327 (re_br 323 (re_br 321 (re_br 320 (re_lf 256 (some (none))) (re_lf 320 (some (none)))) (re_br 322 (re_lf 321 (some (some (.boolean)))) (re_lf 322 (some (some (.int)))))) (re_br 325 (re_br 324 (re_lf 323 (some (some (.int)))) (re_lf 324 (some (some (.long))))) (re_br 326 (re_lf 325 (some (some (.boolean)))) (re_lf 326 (some (none)))))) (re_br 331 (re_br 329 (re_br 328 (re_lf 327 (some (none))) (re_lf 328 (some (none)))) (re_br 330 (re_lf 329 (some (none))) (re_lf 330 (some (some (.object "Cellbrook$Node")))))) (re_br 384 (re_br 332 (re_lf 331 (some (none))) (re_lf 332 (some (none)))) (re_br 385 (re_lf 384 (some (none))) (re_br 386 (re_lf 385 (some (none))) (re_lf 386 (some (none)))))))) (re_br 454 (re_br 450 (re_br 448 (re_br 388 (re_lf 387 (some (none))) (re_lf 388 (some (some (.object "Cellbrook$Node"))))) (re_br 449 (re_lf 448 (some (none))) (re_lf 449 (some (none))))) (re_br 452 (re_br 451 (re_lf 450 (some (none))) (re_lf 451 (some (some (.boolean))))) (re_br 453 (re_lf 452 (some (none))) (re_lf 453 (some (some (.boolean))))))) (re_br 458 (re_br 456 (re_br 455 (re_lf 454 (some (some (.boolean)))) (re_lf 455 (some (some (.boolean))))) (re_br 457 (re_lf 456 (some (some (.boolean)))) (re_lf 457 (some (some (.boolean)))))) (re_br 460 (re_br 459 (re_lf 458 (some (some (.boolean)))) (re_lf 459 (some (some (.boolean))))) (re_br 461 (re_lf 460 (some (some (.boolean)))) (re_br 462 (re_lf 461 (some (some (.boolean)))) (re_lf 462 (some (some (.boolean)))))))))) (re_br 579 (re_br 518 (re_br 514 (re_br 512 (re_br 464 (re_lf 463 (some (some (.long)))) (re_lf 464 (some (some (.object "Cellbrook$Node"))))) (re_br 513 (re_lf 512 (some (none))) (re_lf 513 (some (some (.int)))))) (re_br 516 (re_br 515 (re_lf 514 (some (some (.boolean)))) (re_lf 515 (some (some (.object "Cellbrook$Result"))))) (re_br 517 (re_lf 516 (some (some (.object "Cellbrook$Result")))) (re_lf 517 (some (some (.int))))))) (re_br 522 (re_br 520 (re_br 519 (re_lf 518 (some (some (.long)))) (re_lf 519 (some (some (.int))))) (re_br 521 (re_lf 520 (some (some (.boolean)))) (re_lf 521 (some (none))))) (re_br 576 (re_br 523 (re_lf 522 (some (some (.int)))) (re_lf 523 (some (none)))) (re_br 577 (re_lf 576 (some (some (.int)))) (re_br 578 (re_lf 577 (some (some (.int)))) (re_lf 578 (some (some (.long))))))))) (re_br 587 (re_br 583 (re_br 581 (re_br 580 (re_lf 579 (some (some (.long)))) (re_lf 580 (some (some (.long))))) (re_br 582 (re_lf 581 (some (some (.long)))) (re_lf 582 (some (some (.boolean)))))) (re_br 585 (re_br 584 (re_lf 583 (some (some (.boolean)))) (re_lf 584 (some (some (.boolean))))) (re_br 586 (re_lf 585 (some (some (.boolean)))) (re_lf 586 (some (some (.boolean))))))) (re_br 642 (re_br 640 (re_br 588 (re_lf 587 (some (some (.boolean)))) (re_lf 588 (some (some (.boolean))))) (re_br 641 (re_lf 640 (some (none))) (re_lf 641 (some (some (.boolean)))))) (re_br 644 (re_br 643 (re_lf 642 (some (some (.int)))) (re_lf 643 (some (some (.boolean))))) (re_br 704 (re_lf 644 (some (some (.object "Cellbrook$Expr")))) (re_br 768 (re_lf 704 (some (none))) (re_lf 768 (some (some (.int)))))))))))) y).getD none
def rYs : Nat → Nat := fun y => (bif Nat.blt y 1408 then (re_br 256 (re_br 33 (re_br 16 (re_br 8 (re_br 4 (re_br 2 (re_br 1 (re_lf 0 (some 161)) (re_lf 1 (some 22))) (re_br 3 (re_lf 2 (some 21)) (re_lf 3 (some 31)))) (re_br 6 (re_br 5 (re_lf 4 (some 27)) (re_lf 5 (some 22))) (re_br 7 (re_lf 6 (some 27)) (re_lf 7 (some 21))))) (re_br 12 (re_br 10 (re_br 9 (re_lf 8 (some 26)) (re_lf 9 (some 85))) (re_br 11 (re_lf 10 (some 41)) (re_lf 11 (some 52)))) (re_br 14 (re_br 13 (re_lf 12 (some 38)) (re_lf 13 (some 39))) (re_br 15 (re_lf 14 (some 32)) (re_lf 15 (some 34)))))) (re_br 24 (re_br 20 (re_br 18 (re_br 17 (re_lf 16 (some 62)) (re_lf 17 (some 15))) (re_br 19 (re_lf 18 (some 96)) (re_lf 19 (some 33)))) (re_br 22 (re_br 21 (re_lf 20 (some 72)) (re_lf 21 (some 51))) (re_br 23 (re_lf 22 (some 81)) (re_lf 23 (some 41))))) (re_br 28 (re_br 26 (re_br 25 (re_lf 24 (some 30)) (re_lf 25 (some 43))) (re_br 27 (re_lf 26 (some 43)) (re_lf 27 (some 56)))) (re_br 30 (re_br 29 (re_lf 28 (some 98)) (re_lf 29 (some 40))) (re_br 31 (re_lf 30 (some 46)) (re_br 32 (re_lf 31 (some 17)) (re_lf 32 (some 26)))))))) (re_br 130 (re_br 65 (re_br 37 (re_br 35 (re_br 34 (re_lf 33 (some 23)) (re_lf 34 (some 44))) (re_br 36 (re_lf 35 (some 58)) (re_lf 36 (some 35)))) (re_br 39 (re_br 38 (re_lf 37 (some 15)) (re_lf 38 (some 19))) (re_br 64 (re_lf 39 (some 17)) (re_lf 64 (some 49))))) (re_br 69 (re_br 67 (re_br 66 (re_lf 65 (some 37)) (re_lf 66 (some 17))) (re_br 68 (re_lf 67 (some 35)) (re_lf 68 (some 35)))) (re_br 71 (re_br 70 (re_lf 69 (some 21)) (re_lf 70 (some 28))) (re_br 128 (re_lf 71 (some 39)) (re_br 129 (re_lf 128 (some 20)) (re_lf 129 (some 62))))))) (re_br 138 (re_br 134 (re_br 132 (re_br 131 (re_lf 130 (some 31)) (re_lf 131 (some 66))) (re_br 133 (re_lf 132 (some 41)) (re_lf 133 (some 45)))) (re_br 136 (re_br 135 (re_lf 134 (some 46)) (re_lf 135 (some 35))) (re_br 137 (re_lf 136 (some 49)) (re_lf 137 (some 73))))) (re_br 193 (re_br 140 (re_br 139 (re_lf 138 (some 26)) (re_lf 139 (some 48))) (re_br 192 (re_lf 140 (some 77)) (re_lf 192 (some 58)))) (re_br 195 (re_br 194 (re_lf 193 (some 38)) (re_lf 194 (some 112))) (re_br 196 (re_lf 195 (some 83)) (re_br 197 (re_lf 196 (some 84)) (re_lf 197 (some 113))))))))) (re_br 463 (re_br 387 (re_br 327 (re_br 323 (re_br 321 (re_br 320 (re_lf 256 (some 12)) (re_lf 320 (some 66))) (re_br 322 (re_lf 321 (some 89)) (re_lf 322 (some 27)))) (re_br 325 (re_br 324 (re_lf 323 (some 35)) (re_lf 324 (some 40))) (re_br 326 (re_lf 325 (some 31)) (re_lf 326 (some 10))))) (re_br 331 (re_br 329 (re_br 328 (re_lf 327 (some 26)) (re_lf 328 (some 61))) (re_br 330 (re_lf 329 (some 15)) (re_lf 330 (some 21)))) (re_br 384 (re_br 332 (re_lf 331 (some 50)) (re_lf 332 (some 22))) (re_br 385 (re_lf 384 (some 10)) (re_br 386 (re_lf 385 (some 127)) (re_lf 386 (some 30))))))) (re_br 454 (re_br 450 (re_br 448 (re_br 388 (re_lf 387 (some 86)) (re_lf 388 (some 92))) (re_br 449 (re_lf 448 (some 63)) (re_lf 449 (some 28)))) (re_br 452 (re_br 451 (re_lf 450 (some 20)) (re_lf 451 (some 137))) (re_br 453 (re_lf 452 (some 51)) (re_lf 453 (some 79))))) (re_br 458 (re_br 456 (re_br 455 (re_lf 454 (some 134)) (re_lf 455 (some 44))) (re_br 457 (re_lf 456 (some 148)) (re_lf 457 (some 67)))) (re_br 460 (re_br 459 (re_lf 458 (some 61)) (re_lf 459 (some 99))) (re_br 461 (re_lf 460 (some 169)) (re_br 462 (re_lf 461 (some 37)) (re_lf 462 (some 40)))))))) (re_br 579 (re_br 518 (re_br 514 (re_br 512 (re_br 464 (re_lf 463 (some 7)) (re_lf 464 (some 7))) (re_br 513 (re_lf 512 (some 32)) (re_lf 513 (some 129)))) (re_br 516 (re_br 515 (re_lf 514 (some 157)) (re_lf 515 (some 12))) (re_br 517 (re_lf 516 (some 46)) (re_lf 517 (some 14))))) (re_br 522 (re_br 520 (re_br 519 (re_lf 518 (some 14)) (re_lf 519 (some 176))) (re_br 521 (re_lf 520 (some 113)) (re_lf 521 (some 9)))) (re_br 576 (re_br 523 (re_lf 522 (some 114)) (re_lf 523 (some 23))) (re_br 577 (re_lf 576 (some 36)) (re_br 578 (re_lf 577 (some 6)) (re_lf 578 (some 169))))))) (re_br 587 (re_br 583 (re_br 581 (re_br 580 (re_lf 579 (some 26)) (re_lf 580 (some 358))) (re_br 582 (re_lf 581 (some 33)) (re_lf 582 (some 337)))) (re_br 585 (re_br 584 (re_lf 583 (some 72)) (re_lf 584 (some 280))) (re_br 586 (re_lf 585 (some 516)) (re_lf 586 (some 574))))) (re_br 642 (re_br 640 (re_br 588 (re_lf 587 (some 417)) (re_lf 588 (some 304))) (re_br 641 (re_lf 640 (some 369)) (re_lf 641 (some 99)))) (re_br 644 (re_br 643 (re_lf 642 (some 82)) (re_lf 643 (some 18))) (re_br 704 (re_lf 644 (some 117)) (re_br 768 (re_lf 704 (some 5)) (re_lf 768 (some 53)))))))))) y else none).getD 0
def rYi : Nat → Bool := fun y => (bif Nat.blt y 1408 then (re_br 320 (re_br 128 (re_br 64 (re_lf 0 (some true)) (re_lf 64 (some true))) (re_br 192 (re_lf 128 (some true)) (re_br 256 (re_lf 192 (some true)) (re_lf 256 (some true))))) (re_br 512 (re_br 384 (re_lf 320 (some true)) (re_br 448 (re_lf 384 (some true)) (re_lf 448 (some true)))) (re_br 640 (re_lf 512 (some true)) (re_br 704 (re_lf 640 (some true)) (re_lf 704 (some true)))))) y else none).getD false
def rYc : Nat → Nat := fun y => ((re_br 140 (re_br 30 (re_br 15 (re_br 7 (re_br 3 (re_br 1 (re_lf 0 (some 0)) (re_br 2 (re_lf 1 (some 0)) (re_lf 2 (some 0)))) (re_br 5 (re_br 4 (re_lf 3 (some 0)) (re_lf 4 (some 0))) (re_br 6 (re_lf 5 (some 0)) (re_lf 6 (some 0))))) (re_br 11 (re_br 9 (re_br 8 (re_lf 7 (some 0)) (re_lf 8 (some 0))) (re_br 10 (re_lf 9 (some 0)) (re_lf 10 (some 0)))) (re_br 13 (re_br 12 (re_lf 11 (some 0)) (re_lf 12 (some 0))) (re_br 14 (re_lf 13 (some 0)) (re_lf 14 (some 0)))))) (re_br 22 (re_br 18 (re_br 16 (re_lf 15 (some 0)) (re_br 17 (re_lf 16 (some 0)) (re_lf 17 (some 0)))) (re_br 20 (re_br 19 (re_lf 18 (some 0)) (re_lf 19 (some 0))) (re_br 21 (re_lf 20 (some 0)) (re_lf 21 (some 0))))) (re_br 26 (re_br 24 (re_br 23 (re_lf 22 (some 0)) (re_lf 23 (some 0))) (re_br 25 (re_lf 24 (some 0)) (re_lf 25 (some 0)))) (re_br 28 (re_br 27 (re_lf 26 (some 0)) (re_lf 27 (some 0))) (re_br 29 (re_lf 28 (some 0)) (re_lf 29 (some 0))))))) (re_br 69 (re_br 37 (re_br 33 (re_br 31 (re_lf 30 (some 0)) (re_br 32 (re_lf 31 (some 0)) (re_lf 32 (some 0)))) (re_br 35 (re_br 34 (re_lf 33 (some 0)) (re_lf 34 (some 0))) (re_br 36 (re_lf 35 (some 0)) (re_lf 36 (some 0))))) (re_br 65 (re_br 39 (re_br 38 (re_lf 37 (some 0)) (re_lf 38 (some 0))) (re_br 64 (re_lf 39 (some 0)) (re_lf 64 (some 1)))) (re_br 67 (re_br 66 (re_lf 65 (some 1)) (re_lf 66 (some 1))) (re_br 68 (re_lf 67 (some 1)) (re_lf 68 (some 1)))))) (re_br 132 (re_br 128 (re_br 70 (re_lf 69 (some 1)) (re_br 71 (re_lf 70 (some 1)) (re_lf 71 (some 1)))) (re_br 130 (re_br 129 (re_lf 128 (some 2)) (re_lf 129 (some 2))) (re_br 131 (re_lf 130 (some 2)) (re_lf 131 (some 2))))) (re_br 136 (re_br 134 (re_br 133 (re_lf 132 (some 2)) (re_lf 133 (some 2))) (re_br 135 (re_lf 134 (some 2)) (re_lf 135 (some 2)))) (re_br 138 (re_br 137 (re_lf 136 (some 2)) (re_lf 137 (some 2))) (re_br 139 (re_lf 138 (some 2)) (re_lf 139 (some 2)))))))) (re_br 452 (re_br 327 (re_br 256 (re_br 194 (re_br 192 (re_lf 140 (some 2)) (re_br 193 (re_lf 192 (some 3)) (re_lf 193 (some 3)))) (re_br 196 (re_br 195 (re_lf 194 (some 3)) (re_lf 195 (some 3))) (re_br 197 (re_lf 196 (some 3)) (re_lf 197 (some 3))))) (re_br 323 (re_br 321 (re_br 320 (re_lf 256 (some 4)) (re_lf 320 (some 5))) (re_br 322 (re_lf 321 (some 5)) (re_lf 322 (some 5)))) (re_br 325 (re_br 324 (re_lf 323 (some 5)) (re_lf 324 (some 5))) (re_br 326 (re_lf 325 (some 5)) (re_lf 326 (some 5)))))) (re_br 385 (re_br 330 (re_br 328 (re_lf 327 (some 5)) (re_br 329 (re_lf 328 (some 5)) (re_lf 329 (some 5)))) (re_br 332 (re_br 331 (re_lf 330 (some 5)) (re_lf 331 (some 5))) (re_br 384 (re_lf 332 (some 5)) (re_lf 384 (some 6))))) (re_br 448 (re_br 387 (re_br 386 (re_lf 385 (some 6)) (re_lf 386 (some 6))) (re_br 388 (re_lf 387 (some 6)) (re_lf 388 (some 6)))) (re_br 450 (re_br 449 (re_lf 448 (some 7)) (re_lf 449 (some 7))) (re_br 451 (re_lf 450 (some 7)) (re_lf 451 (some 7))))))) (re_br 514 (re_br 459 (re_br 455 (re_br 453 (re_lf 452 (some 7)) (re_br 454 (re_lf 453 (some 7)) (re_lf 454 (some 7)))) (re_br 457 (re_br 456 (re_lf 455 (some 7)) (re_lf 456 (some 7))) (re_br 458 (re_lf 457 (some 7)) (re_lf 458 (some 7))))) (re_br 463 (re_br 461 (re_br 460 (re_lf 459 (some 7)) (re_lf 460 (some 7))) (re_br 462 (re_lf 461 (some 7)) (re_lf 462 (some 7)))) (re_br 512 (re_br 464 (re_lf 463 (some 7)) (re_lf 464 (some 7))) (re_br 513 (re_lf 512 (some 8)) (re_lf 513 (some 8)))))) (re_br 522 (re_br 518 (re_br 516 (re_br 515 (re_lf 514 (some 8)) (re_lf 515 (some 8))) (re_br 517 (re_lf 516 (some 8)) (re_lf 517 (some 8)))) (re_br 520 (re_br 519 (re_lf 518 (some 8)) (re_lf 519 (some 8))) (re_br 521 (re_lf 520 (some 8)) (re_lf 521 (some 8))))) (re_br 642 (re_br 640 (re_br 523 (re_lf 522 (some 8)) (re_lf 523 (some 8))) (re_br 641 (re_lf 640 (some 9)) (re_lf 641 (some 9)))) (re_br 644 (re_br 643 (re_lf 642 (some 9)) (re_lf 643 (some 9))) (re_br 704 (re_lf 644 (some 9)) (re_lf 704 (some 10))))))))) y).getD 0
def rIds : List Nat := [0, 1, 2, 3, 4, 5, 6, 7, 8, 9, 10, 11, 12, 13, 14, 15, 16, 17, 18, 19, 20, 21, 22, 23, 24, 25, 26, 27, 28, 29, 30, 31, 32, 33, 34, 35, 36, 37, 38, 39, 64, 65, 66, 67, 68, 69, 70, 71, 128, 129, 130, 131, 132, 133, 134, 135, 136, 137, 138, 139, 140, 192, 193, 194, 195, 196, 197, 256, 320, 321, 322, 323, 324, 325, 326, 327, 328, 329, 330, 331, 332, 384, 385, 386, 387, 388, 448, 449, 450, 451, 452, 453, 454, 455, 456, 457, 458, 459, 460, 461, 462, 463, 464, 512, 513, 514, 515, 516, 517, 518, 519, 520, 521, 522, 523, 576, 577, 578, 579, 580, 581, 582, 583, 584, 585, 586, 587, 588, 640, 641, 642, 643, 644, 704, 768]
def rI0 : Nat → Option Instr := (re_br 84 (re_br 44 (re_br 21 (re_br 10 (re_br 4 (re_br 1 (re_lf 0 (some (.aload_n 0))) (re_lf 1 (some (.invokespecial 3)))) (re_br 5 (re_lf 4 (some (.aload_n 0))) (re_br 7 (re_lf 5 (some (.bipush 20))) (re_lf 7 (some (.anewarray 9)))))) (re_br 14 (re_br 13 (re_lf 10 (some (.putfield 11))) (re_lf 13 (some (.aload_n 0)))) (re_br 17 (re_lf 14 (some (.new 15))) (re_br 18 (re_lf 17 (some (.dup))) (re_lf 18 (some (.invokespecial 17))))))) (re_br 30 (re_br 25 (re_br 24 (re_lf 21 (some (.putfield 18))) (re_lf 24 (some (.aload_n 0)))) (re_br 28 (re_lf 25 (some (.new 22))) (re_br 29 (re_lf 28 (some (.dup))) (re_lf 29 (some (.aload_n 0)))))) (re_br 39 (re_br 33 (re_lf 30 (some (.getfield 18))) (re_br 36 (re_lf 33 (some (.invokespecial 24))) (re_lf 36 (some (.putfield 27))))) (re_br 40 (re_lf 39 (some (.aload_n 0))) (re_br 43 (re_lf 40 (some (.new 31))) (re_lf 43 (some (.dup)))))))) (re_br 61 (re_br 56 (re_br 50 (re_br 47 (re_lf 44 (some (.invokespecial 33))) (re_lf 47 (some (.putfield 34)))) (re_br 52 (re_lf 50 (some (.bipush 24))) (re_br 55 (re_lf 52 (some (.anewarray 38))) (re_lf 55 (some (.astore_n 1)))))) (re_br 58 (re_br 57 (re_lf 56 (some (.iconst 0))) (re_lf 57 (some (.istore_n 2)))) (re_br 59 (re_lf 58 (some (.iload_n 2))) (re_br 60 (re_lf 59 (some (.aload_n 1))) (re_lf 60 (some (.arraylength))))))) (re_br 70 (re_br 65 (re_br 64 (re_lf 61 (some (.if_icmp .ge 19))) (re_lf 64 (some (.aload_n 1)))) (re_br 66 (re_lf 65 (some (.iload_n 2))) (re_br 69 (re_lf 66 (some (.new 38))) (re_lf 69 (some (.dup)))))) (re_br 77 (re_br 73 (re_lf 70 (some (.invokespecial 40))) (re_br 74 (re_lf 73 (some (.aastore))) (re_lf 74 (some (.iinc 2 1))))) (re_br 80 (re_lf 77 (some (.goto (-19)))) (re_br 83 (re_lf 80 (some (.new 41))) (re_lf 83 (some (.dup))))))))) (re_br 121 (re_br 102 (re_br 93 (re_br 88 (re_br 85 (re_lf 84 (some (.aload_n 1))) (re_lf 85 (some (.invokespecial 43)))) (re_br 89 (re_lf 88 (some (.astore_n 2))) (re_br 92 (re_lf 89 (some (.new 46))) (re_lf 92 (some (.dup)))))) (re_br 95 (re_br 94 (re_lf 93 (some (.aload_n 2))) (re_lf 94 (some (.aload_n 0)))) (re_br 98 (re_lf 95 (some (.getfield 34))) (re_br 101 (re_lf 98 (some (.invokespecial 48))) (re_lf 101 (some (.astore_n 3))))))) (re_br 111 (re_br 106 (re_br 103 (re_lf 102 (some (.aload_n 0))) (re_lf 103 (some (.new 51)))) (re_br 107 (re_lf 106 (some (.dup))) (re_br 108 (re_lf 107 (some (.aload_n 0))) (re_lf 108 (some (.getfield 18)))))) (re_br 116 (re_br 112 (re_lf 111 (some (.aload_n 0))) (re_br 115 (re_lf 112 (some (.getfield 27))) (re_lf 115 (some (.aload_n 3))))) (re_br 117 (re_lf 116 (some (.aload_n 1))) (re_br 118 (re_lf 117 (some (.iconst 0))) (re_lf 118 (some (.invokespecial 53)))))))) (re_br 139 (re_br 130 (re_br 125 (re_br 124 (re_lf 121 (some (.putfield 56))) (re_lf 124 (some (.aload_n 0)))) (re_br 128 (re_lf 125 (some (.new 51))) (re_br 129 (re_lf 128 (some (.dup))) (re_lf 129 (some (.aload_n 0)))))) (re_br 134 (re_br 133 (re_lf 130 (some (.getfield 18))) (re_lf 133 (some (.aload_n 0)))) (re_br 137 (re_lf 134 (some (.getfield 27))) (re_br 138 (re_lf 137 (some (.aload_n 3))) (re_lf 138 (some (.aload_n 1))))))) (re_br 149 (re_br 144 (re_br 141 (re_lf 139 (some (.bipush 12))) (re_lf 141 (some (.invokespecial 53)))) (re_br 147 (re_lf 144 (some (.putfield 60))) (re_br 148 (re_lf 147 (some (.aload_n 0))) (re_lf 148 (some (.iconst 4)))))) (re_br 156 (re_br 152 (re_lf 149 (some (.anewarray 15))) (re_br 155 (re_lf 152 (some (.putfield 63))) (re_lf 155 (some (.aload_n 0))))) (re_br 157 (re_lf 156 (some (.iconst 0))) (re_br 160 (re_lf 157 (some (.putfield 67))) (re_lf 160 (some (.return_))))))))))
def rI1 : Nat → Option Instr := (re_br 11 (re_br 5 (re_br 1 (re_lf 0 (some (.aload_n 0))) (re_br 4 (re_lf 1 (some (.invokevirtual 71))) (re_lf 4 (some (.aload_n 0))))) (re_br 9 (re_br 8 (re_lf 5 (some (.new 9))) (re_lf 8 (some (.dup)))) (re_br 10 (re_lf 9 (some (.iconst 0))) (re_lf 10 (some (.iconst 0)))))) (re_br 14 (re_br 12 (re_lf 11 (some (.lload_n 1))) (re_br 13 (re_lf 12 (some (.aconst_null))) (re_lf 13 (some (.aconst_null))))) (re_br 18 (re_br 15 (re_lf 14 (some (.aconst_null))) (re_lf 15 (some (.invokespecial 74)))) (re_br 21 (re_lf 18 (some (.invokevirtual 77))) (re_lf 21 (some (.ireturn)))))))
def rI2 : Nat → Option Instr := (re_br 12 (re_br 4 (re_br 1 (re_lf 0 (some (.aload_n 0))) (re_lf 1 (some (.getfield 132)))) (re_br 6 (re_lf 4 (some (.bipush 20))) (re_br 9 (re_lf 6 (some (.if_icmp .lt 14))) (re_lf 9 (some (.new 105)))))) (re_br 16 (re_br 13 (re_lf 12 (some (.dup))) (re_lf 13 (some (.ldc_w 262)))) (re_br 19 (re_lf 16 (some (.invokespecial 109))) (re_br 20 (re_lf 19 (some (.athrow))) (re_lf 20 (some (.return_)))))))
def rI3 : Nat → Option Instr := (re_br 18 (re_br 9 (re_br 4 (re_br 1 (re_lf 0 (some (.aload_n 0))) (re_lf 1 (some (.getfield 132)))) (re_br 6 (re_lf 4 (some (.bipush 20))) (re_lf 6 (some (.if_icmp .ge 20))))) (re_br 13 (re_br 10 (re_lf 9 (some (.aload_n 0))) (re_lf 10 (some (.getfield 11)))) (re_br 14 (re_lf 13 (some (.aload_n 0))) (re_br 15 (re_lf 14 (some (.dup))) (re_lf 15 (some (.getfield 132))))))) (re_br 24 (re_br 20 (re_br 19 (re_lf 18 (some (.dup_x1))) (re_lf 19 (some (.iconst 1)))) (re_br 21 (re_lf 20 (some (.iadd))) (re_lf 21 (some (.putfield 132))))) (re_br 26 (re_br 25 (re_lf 24 (some (.aload_n 1))) (re_lf 25 (some (.aastore)))) (re_br 27 (re_lf 26 (some (.aload_n 0))) (re_br 30 (re_lf 27 (some (.getfield 132))) (re_lf 30 (some (.ireturn))))))))
def rI4 : Nat → Option Instr := (re_br 14 (re_br 6 (re_br 2 (re_br 1 (re_lf 0 (some (.aload_n 0))) (re_lf 1 (some (.iload_n 1)))) (re_br 5 (re_lf 2 (some (.invokevirtual 81))) (re_lf 5 (some (.aload_n 0))))) (re_br 10 (re_br 9 (re_lf 6 (some (.invokevirtual 71))) (re_lf 9 (some (.aload_n 0)))) (re_br 13 (re_lf 10 (some (.new 9))) (re_lf 13 (some (.dup)))))) (re_br 18 (re_br 16 (re_br 15 (re_lf 14 (some (.iconst 1))) (re_lf 15 (some (.iload_n 1)))) (re_br 17 (re_lf 16 (some (.lconst 0))) (re_lf 17 (some (.aconst_null))))) (re_br 20 (re_br 19 (re_lf 18 (some (.aconst_null))) (re_lf 19 (some (.aconst_null)))) (re_br 23 (re_lf 20 (some (.invokespecial 74))) (re_br 26 (re_lf 23 (some (.invokevirtual 77))) (re_lf 26 (some (.ireturn))))))))
def rI5 : Nat → Option Instr := (re_br 10 (re_br 4 (re_br 1 (re_lf 0 (some (.iload_n 1))) (re_lf 1 (some (.ifCond .lt 9)))) (re_br 5 (re_lf 4 (some (.iload_n 1))) (re_br 7 (re_lf 5 (some (.bipush 16))) (re_lf 7 (some (.if_icmp .lt 14)))))) (re_br 17 (re_br 13 (re_lf 10 (some (.new 211))) (re_br 14 (re_lf 13 (some (.dup))) (re_lf 14 (some (.ldc_w 256))))) (re_br 20 (re_lf 17 (some (.invokespecial 215))) (re_br 21 (re_lf 20 (some (.athrow))) (re_lf 21 (some (.return_)))))))
def rI6 : Nat → Option Instr := (re_br 14 (re_br 6 (re_br 2 (re_br 1 (re_lf 0 (some (.aload_n 0))) (re_lf 1 (some (.iload_n 1)))) (re_br 5 (re_lf 2 (some (.invokevirtual 85))) (re_lf 5 (some (.aload_n 0))))) (re_br 10 (re_br 9 (re_lf 6 (some (.invokevirtual 71))) (re_lf 9 (some (.aload_n 0)))) (re_br 13 (re_lf 10 (some (.new 9))) (re_lf 13 (some (.dup)))))) (re_br 18 (re_br 16 (re_br 15 (re_lf 14 (some (.iconst 2))) (re_lf 15 (some (.iload_n 1)))) (re_br 17 (re_lf 16 (some (.lconst 0))) (re_lf 17 (some (.aconst_null))))) (re_br 20 (re_br 19 (re_lf 18 (some (.aconst_null))) (re_lf 19 (some (.aconst_null)))) (re_br 23 (re_lf 20 (some (.invokespecial 74))) (re_br 26 (re_lf 23 (some (.invokevirtual 77))) (re_lf 26 (some (.ireturn))))))))
def rI7 : Nat → Option Instr := (re_br 9 (re_br 4 (re_br 1 (re_lf 0 (some (.iload_n 1))) (re_lf 1 (some (.ifCond .lt 8)))) (re_br 5 (re_lf 4 (some (.iload_n 1))) (re_br 6 (re_lf 5 (some (.iconst 4))) (re_lf 6 (some (.if_icmp .lt 14)))))) (re_br 16 (re_br 12 (re_lf 9 (some (.new 211))) (re_br 13 (re_lf 12 (some (.dup))) (re_lf 13 (some (.ldc_w 258))))) (re_br 19 (re_lf 16 (some (.invokespecial 215))) (re_br 20 (re_lf 19 (some (.athrow))) (re_lf 20 (some (.return_)))))))
def rI8 : Nat → Option Instr := (re_br 12 (re_br 6 (re_br 2 (re_br 1 (re_lf 0 (some (.aload_n 0))) (re_lf 1 (some (.iconst 1)))) (re_br 5 (re_lf 2 (some (.invokevirtual 88))) (re_lf 5 (some (.aload_n 0))))) (re_br 10 (re_br 9 (re_lf 6 (some (.new 9))) (re_lf 9 (some (.dup)))) (re_br 11 (re_lf 10 (some (.iconst 3))) (re_lf 11 (some (.iconst 0)))))) (re_br 18 (re_br 14 (re_br 13 (re_lf 12 (some (.lconst 0))) (re_lf 13 (some (.aload_n 0)))) (re_br 17 (re_lf 14 (some (.invokevirtual 91))) (re_lf 17 (some (.aconst_null))))) (re_br 22 (re_br 19 (re_lf 18 (some (.aconst_null))) (re_lf 19 (some (.invokespecial 74)))) (re_br 25 (re_lf 22 (some (.invokevirtual 77))) (re_lf 25 (some (.ireturn)))))))
def rI9 : Nat → Option Instr := (re_br 41 (re_br 21 (re_br 11 (re_br 4 (re_br 1 (re_lf 0 (some (.aload_n 0))) (re_lf 1 (some (.getfield 132)))) (re_br 5 (re_lf 4 (some (.iload_n 1))) (re_br 8 (re_lf 5 (some (.if_icmp .ge 14))) (re_lf 8 (some (.new 105)))))) (re_br 18 (re_br 12 (re_lf 11 (some (.dup))) (re_br 15 (re_lf 12 (some (.ldc_w 264))) (re_lf 15 (some (.invokespecial 109))))) (re_br 19 (re_lf 18 (some (.athrow))) (re_br 20 (re_lf 19 (some (.iconst 1))) (re_lf 20 (some (.istore_n 2))))))) (re_br 29 (re_br 26 (re_br 22 (re_lf 21 (some (.aload_n 0))) (re_br 25 (re_lf 22 (some (.getfield 132))) (re_lf 25 (some (.iload_n 1))))) (re_br 27 (re_lf 26 (some (.isub))) (re_br 28 (re_lf 27 (some (.istore_n 3))) (re_lf 28 (some (.iload_n 3)))))) (re_br 36 (re_br 30 (re_lf 29 (some (.aload_n 0))) (re_br 33 (re_lf 30 (some (.getfield 132))) (re_lf 33 (some (.if_icmp .ge 34))))) (re_br 37 (re_lf 36 (some (.iload_n 2))) (re_br 38 (re_lf 37 (some (.aload_n 0))) (re_lf 38 (some (.getfield 11)))))))) (re_br 60 (re_br 50 (re_br 43 (re_br 42 (re_lf 41 (some (.iload_n 3))) (re_lf 42 (some (.aaload)))) (re_br 46 (re_lf 43 (some (.ifnonnull 7))) (re_br 47 (re_lf 46 (some (.iconst 0))) (re_lf 47 (some (.goto 12)))))) (re_br 55 (re_br 51 (re_lf 50 (some (.aload_n 0))) (re_br 54 (re_lf 51 (some (.getfield 11))) (re_lf 54 (some (.iload_n 3))))) (re_br 56 (re_lf 55 (some (.aaload))) (re_br 59 (re_lf 56 (some (.getfield 266))) (re_lf 59 (some (.iadd))))))) (re_br 73 (re_br 67 (re_br 61 (re_lf 60 (some (.istore_n 2))) (re_br 64 (re_lf 61 (some (.iinc 3 1))) (re_lf 64 (some (.goto (-36)))))) (re_br 68 (re_lf 67 (some (.iload_n 2))) (re_br 70 (re_lf 68 (some (.bipush 30))) (re_lf 70 (some (.if_icmp .le 14)))))) (re_br 80 (re_br 76 (re_lf 73 (some (.new 105))) (re_br 77 (re_lf 76 (some (.dup))) (re_lf 77 (some (.ldc_w 269))))) (re_br 83 (re_lf 80 (some (.invokespecial 109))) (re_br 84 (re_lf 83 (some (.athrow))) (re_lf 84 (some (.return_)))))))))
def rI10 : Nat → Option Instr := (re_br 20 (re_br 10 (re_br 7 (re_br 1 (re_lf 0 (some (.aload_n 0))) (re_br 4 (re_lf 1 (some (.getfield 132))) (re_lf 4 (some (.ifCond .ne 5))))) (re_br 8 (re_lf 7 (some (.aconst_null))) (re_br 9 (re_lf 8 (some (.areturn))) (re_lf 9 (some (.aload_n 0)))))) (re_br 15 (re_br 11 (re_lf 10 (some (.dup))) (re_br 14 (re_lf 11 (some (.getfield 132))) (re_lf 14 (some (.iconst 1))))) (re_br 16 (re_lf 15 (some (.isub))) (re_br 19 (re_lf 16 (some (.putfield 132))) (re_lf 19 (some (.aload_n 0))))))) (re_br 30 (re_br 27 (re_br 23 (re_lf 20 (some (.getfield 11))) (re_br 24 (re_lf 23 (some (.aload_n 0))) (re_lf 24 (some (.getfield 132))))) (re_br 28 (re_lf 27 (some (.aaload))) (re_br 29 (re_lf 28 (some (.astore_n 1))) (re_lf 29 (some (.aload_n 0)))))) (re_br 37 (re_br 33 (re_lf 30 (some (.getfield 11))) (re_br 34 (re_lf 33 (some (.aload_n 0))) (re_lf 34 (some (.getfield 132))))) (re_br 39 (re_br 38 (re_lf 37 (some (.aconst_null))) (re_lf 38 (some (.aastore)))) (re_br 40 (re_lf 39 (some (.aload_n 1))) (re_lf 40 (some (.areturn))))))))
def rI11 : Nat → Option Instr := (re_br 28 (re_br 13 (re_br 5 (re_br 1 (re_lf 0 (some (.iload_n 1))) (re_br 4 (re_lf 1 (some (.ifCond .lt 8))) (re_lf 4 (some (.iload_n 1))))) (re_br 9 (re_br 6 (re_lf 5 (some (.iconst 4))) (re_lf 6 (some (.if_icmp .lt 13)))) (re_br 12 (re_lf 9 (some (.new 95))) (re_lf 12 (some (.dup)))))) (re_br 20 (re_br 18 (re_br 15 (re_lf 13 (some (.ldc 97))) (re_lf 15 (some (.invokespecial 99)))) (re_br 19 (re_lf 18 (some (.athrow))) (re_lf 19 (some (.aload_n 0))))) (re_br 24 (re_br 21 (re_lf 20 (some (.iconst 2))) (re_lf 21 (some (.invokevirtual 88)))) (re_br 25 (re_lf 24 (some (.aload_n 0))) (re_lf 25 (some (.invokevirtual 91))))))) (re_br 40 (re_br 34 (re_br 30 (re_br 29 (re_lf 28 (some (.astore_n 2))) (re_lf 29 (some (.aload_n 0)))) (re_br 33 (re_lf 30 (some (.invokevirtual 91))) (re_lf 33 (some (.astore_n 3))))) (re_br 38 (re_br 35 (re_lf 34 (some (.aload_n 0))) (re_lf 35 (some (.new 9)))) (re_br 39 (re_lf 38 (some (.dup))) (re_lf 39 (some (.iconst 4)))))) (re_br 44 (re_br 42 (re_br 41 (re_lf 40 (some (.iload_n 1))) (re_lf 41 (some (.lconst 0)))) (re_br 43 (re_lf 42 (some (.aload_n 3))) (re_lf 43 (some (.aload_n 2))))) (re_br 48 (re_br 45 (re_lf 44 (some (.aconst_null))) (re_lf 45 (some (.invokespecial 74)))) (re_br 51 (re_lf 48 (some (.invokevirtual 77))) (re_lf 51 (some (.ireturn))))))))
def rI12 : Nat → Option Instr := (re_br 20 (re_br 10 (re_br 5 (re_br 1 (re_lf 0 (some (.aload_n 0))) (re_br 2 (re_lf 1 (some (.iconst 3))) (re_lf 2 (some (.invokevirtual 88))))) (re_br 6 (re_lf 5 (some (.aload_n 0))) (re_br 9 (re_lf 6 (some (.invokevirtual 91))) (re_lf 9 (some (.astore_n 1)))))) (re_br 15 (re_br 11 (re_lf 10 (some (.aload_n 0))) (re_br 14 (re_lf 11 (some (.invokevirtual 91))) (re_lf 14 (some (.astore_n 2))))) (re_br 16 (re_lf 15 (some (.aload_n 0))) (re_br 19 (re_lf 16 (some (.invokevirtual 91))) (re_lf 19 (some (.astore_n 3))))))) (re_br 28 (re_br 25 (re_br 21 (re_lf 20 (some (.aload_n 0))) (re_br 24 (re_lf 21 (some (.new 9))) (re_lf 24 (some (.dup))))) (re_br 26 (re_lf 25 (some (.iconst 5))) (re_br 27 (re_lf 26 (some (.iconst 0))) (re_lf 27 (some (.lconst 0)))))) (re_br 31 (re_br 29 (re_lf 28 (some (.aload_n 3))) (re_br 30 (re_lf 29 (some (.aload_n 2))) (re_lf 30 (some (.aload_n 1))))) (re_br 34 (re_lf 31 (some (.invokespecial 74))) (re_br 37 (re_lf 34 (some (.invokevirtual 77))) (re_lf 37 (some (.ireturn))))))))
def rI13 : Nat → Option Instr := (re_br 20 (re_br 10 (re_br 5 (re_br 1 (re_lf 0 (some (.aload_n 0))) (re_br 2 (re_lf 1 (some (.iload_n 1))) (re_lf 2 (some (.invokevirtual 81))))) (re_br 6 (re_lf 5 (some (.aload_n 0))) (re_br 7 (re_lf 6 (some (.iconst 2))) (re_lf 7 (some (.invokevirtual 88)))))) (re_br 15 (re_br 11 (re_lf 10 (some (.aload_n 0))) (re_br 14 (re_lf 11 (some (.invokevirtual 91))) (re_lf 14 (some (.astore_n 2))))) (re_br 16 (re_lf 15 (some (.aload_n 0))) (re_br 19 (re_lf 16 (some (.invokevirtual 91))) (re_lf 19 (some (.astore_n 3))))))) (re_br 29 (re_br 25 (re_br 21 (re_lf 20 (some (.aload_n 0))) (re_br 24 (re_lf 21 (some (.new 9))) (re_lf 24 (some (.dup))))) (re_br 27 (re_lf 25 (some (.bipush 6))) (re_br 28 (re_lf 27 (some (.iload_n 1))) (re_lf 28 (some (.lconst 0)))))) (re_br 32 (re_br 30 (re_lf 29 (some (.aload_n 3))) (re_br 31 (re_lf 30 (some (.aload_n 2))) (re_lf 31 (some (.aconst_null))))) (re_br 35 (re_lf 32 (some (.invokespecial 74))) (re_br 38 (re_lf 35 (some (.invokevirtual 77))) (re_lf 38 (some (.ireturn))))))))
def rI14 : Nat → Option Instr := (re_br 15 (re_br 6 (re_br 2 (re_br 1 (re_lf 0 (some (.aload_n 0))) (re_lf 1 (some (.iload_n 1)))) (re_br 5 (re_lf 2 (some (.invokevirtual 81))) (re_lf 5 (some (.aload_n 0))))) (re_br 10 (re_br 7 (re_lf 6 (some (.iconst 1))) (re_lf 7 (some (.invokevirtual 88)))) (re_br 11 (re_lf 10 (some (.aload_n 0))) (re_br 14 (re_lf 11 (some (.new 9))) (re_lf 14 (some (.dup))))))) (re_br 21 (re_br 18 (re_br 17 (re_lf 15 (some (.bipush 7))) (re_lf 17 (some (.iload_n 1)))) (re_br 19 (re_lf 18 (some (.lconst 0))) (re_br 20 (re_lf 19 (some (.aconst_null))) (re_lf 20 (some (.aload_n 0)))))) (re_br 25 (re_br 24 (re_lf 21 (some (.invokevirtual 91))) (re_lf 24 (some (.aconst_null)))) (re_br 28 (re_lf 25 (some (.invokespecial 74))) (re_br 31 (re_lf 28 (some (.invokevirtual 77))) (re_lf 31 (some (.ireturn))))))))
def rI15 : Nat → Option Instr := (re_br 16 (re_br 9 (re_br 2 (re_br 1 (re_lf 0 (some (.aload_n 0))) (re_lf 1 (some (.iconst 2)))) (re_br 5 (re_lf 2 (some (.invokevirtual 88))) (re_br 6 (re_lf 5 (some (.aload_n 0))) (re_lf 6 (some (.invokevirtual 91)))))) (re_br 11 (re_br 10 (re_lf 9 (some (.astore_n 1))) (re_lf 10 (some (.aload_n 0)))) (re_br 14 (re_lf 11 (some (.invokevirtual 91))) (re_br 15 (re_lf 14 (some (.astore_n 2))) (re_lf 15 (some (.aload_n 0))))))) (re_br 24 (re_br 20 (re_br 19 (re_lf 16 (some (.new 9))) (re_lf 19 (some (.dup)))) (re_br 22 (re_lf 20 (some (.bipush 8))) (re_br 23 (re_lf 22 (some (.iconst 0))) (re_lf 23 (some (.lconst 0)))))) (re_br 27 (re_br 25 (re_lf 24 (some (.aload_n 2))) (re_br 26 (re_lf 25 (some (.aload_n 1))) (re_lf 26 (some (.aconst_null))))) (re_br 30 (re_lf 27 (some (.invokespecial 74))) (re_br 33 (re_lf 30 (some (.invokevirtual 77))) (re_lf 33 (some (.ireturn))))))))
def rI16 : Nat → Option Instr := (re_br 31 (re_br 18 (re_br 9 (re_br 4 (re_br 1 (re_lf 0 (some (.aload_n 0))) (re_lf 1 (some (.getfield 102)))) (re_br 6 (re_lf 4 (some (.bipush 12))) (re_lf 6 (some (.if_icmp .lt 13))))) (re_br 13 (re_br 12 (re_lf 9 (some (.new 105))) (re_lf 12 (some (.dup)))) (re_br 15 (re_lf 13 (some (.ldc 107))) (re_lf 15 (some (.invokespecial 109)))))) (re_br 24 (re_br 20 (re_br 19 (re_lf 18 (some (.athrow))) (re_lf 19 (some (.aload_n 0)))) (re_br 21 (re_lf 20 (some (.dup))) (re_lf 21 (some (.getfield 102))))) (re_br 26 (re_br 25 (re_lf 24 (some (.dup_x1))) (re_lf 25 (some (.iconst 1)))) (re_br 27 (re_lf 26 (some (.iadd))) (re_br 30 (re_lf 27 (some (.putfield 102))) (re_lf 30 (some (.istore_n 1)))))))) (re_br 45 (re_br 39 (re_br 35 (re_br 32 (re_lf 31 (some (.aload_n 0))) (re_lf 32 (some (.getfield 18)))) (re_br 38 (re_lf 35 (some (.getfield 110))) (re_lf 38 (some (.iload_n 1))))) (re_br 41 (re_br 40 (re_lf 39 (some (.iconst 1))) (re_lf 40 (some (.bastore)))) (re_br 42 (re_lf 41 (some (.aload_n 0))) (re_lf 42 (some (.getfield 27)))))) (re_br 53 (re_br 49 (re_br 48 (re_lf 45 (some (.invokevirtual 114))) (re_lf 48 (some (.aload_n 0)))) (re_br 52 (re_lf 49 (some (.getfield 56))) (re_lf 52 (some (.aload_n 0))))) (re_br 59 (re_br 56 (re_lf 53 (some (.invokevirtual 117))) (re_lf 56 (some (.invokevirtual 121)))) (re_br 60 (re_lf 59 (some (.pop))) (re_br 61 (re_lf 60 (some (.iload_n 1))) (re_lf 61 (some (.ireturn)))))))))
def rI17 : Nat → Option Instr := (re_br 7 (re_br 1 (re_lf 0 (some (.aload_n 0))) (re_br 4 (re_lf 1 (some (.getfield 67))) (re_lf 4 (some (.ifCond .ne 9))))) (re_br 13 (re_br 10 (re_lf 7 (some (.sipush 4095))) (re_lf 10 (some (.goto 4)))) (re_br 14 (re_lf 13 (some (.iconst 0))) (re_lf 14 (some (.ireturn))))))
def rI18 : Nat → Option Instr := (re_br 46 (re_br 20 (re_br 10 (re_br 5 (re_br 1 (re_lf 0 (some (.aload_n 0))) (re_br 2 (re_lf 1 (some (.iload_n 1))) (re_lf 2 (some (.invokevirtual 125))))) (re_br 6 (re_lf 5 (some (.aload_n 0))) (re_br 7 (re_lf 6 (some (.iload_n 2))) (re_lf 7 (some (.invokevirtual 81)))))) (re_br 17 (re_br 11 (re_lf 10 (some (.aload_n 0))) (re_br 14 (re_lf 11 (some (.getfield 18))) (re_lf 14 (some (.getfield 128))))) (re_br 18 (re_lf 17 (some (.iload_n 1))) (re_br 19 (re_lf 18 (some (.aaload))) (re_lf 19 (some (.astore_n 3))))))) (re_br 33 (re_br 27 (re_br 21 (re_lf 20 (some (.aload_n 0))) (re_br 24 (re_lf 21 (some (.getfield 132))) (re_lf 24 (some (.ifCond .ne 13))))) (re_br 30 (re_lf 27 (some (.new 105))) (re_br 31 (re_lf 30 (some (.dup))) (re_lf 31 (some (.ldc 135)))))) (re_br 38 (re_br 36 (re_lf 33 (some (.invokespecial 109))) (re_br 37 (re_lf 36 (some (.athrow))) (re_lf 37 (some (.aload_n 3))))) (re_br 42 (re_br 39 (re_lf 38 (some (.iload_n 2))) (re_lf 39 (some (.invokevirtual 137)))) (re_br 45 (re_lf 42 (some (.ifCond .ge 21))) (re_lf 45 (some (.aload_n 3)))))))) (re_br 69 (re_br 59 (re_br 53 (re_br 49 (re_lf 46 (some (.getfield 142))) (re_br 50 (re_lf 49 (some (.iconst 4))) (re_lf 50 (some (.if_icmp .lt 13))))) (re_br 56 (re_lf 53 (some (.new 105))) (re_br 57 (re_lf 56 (some (.dup))) (re_lf 57 (some (.ldc 145)))))) (re_br 64 (re_br 62 (re_lf 59 (some (.invokespecial 109))) (re_br 63 (re_lf 62 (some (.athrow))) (re_lf 63 (some (.aload_n 3))))) (re_br 65 (re_lf 64 (some (.iload_n 2))) (re_br 66 (re_lf 65 (some (.aload_n 0))) (re_lf 66 (some (.invokevirtual 91))))))) (re_br 83 (re_br 76 (re_br 72 (re_lf 69 (some (.invokevirtual 147))) (re_br 73 (re_lf 72 (some (.aload_n 0))) (re_lf 73 (some (.getfield 27))))) (re_br 79 (re_lf 76 (some (.invokevirtual 114))) (re_br 80 (re_lf 79 (some (.aload_n 0))) (re_lf 80 (some (.getfield 56)))))) (re_br 90 (re_br 84 (re_lf 83 (some (.aload_n 0))) (re_br 87 (re_lf 84 (some (.invokevirtual 117))) (re_lf 87 (some (.invokevirtual 121))))) (re_br 92 (re_br 91 (re_lf 90 (some (.pop))) (re_lf 91 (some (.aload_n 3)))) (re_br 95 (re_lf 92 (some (.getfield 142))) (re_lf 95 (some (.ireturn)))))))))
def rI19 : Nat → Option Instr := (re_br 17 (re_br 7 (re_br 4 (re_br 1 (re_lf 0 (some (.iload_n 1))) (re_lf 1 (some (.ifCond .lt 21)))) (re_br 5 (re_lf 4 (some (.iload_n 1))) (re_lf 5 (some (.bipush 12))))) (re_br 11 (re_br 10 (re_lf 7 (some (.if_icmp .ge 15))) (re_lf 10 (some (.aload_n 0)))) (re_br 14 (re_lf 11 (some (.getfield 18))) (re_lf 14 (some (.getfield 110)))))) (re_br 25 (re_br 19 (re_br 18 (re_lf 17 (some (.iload_n 1))) (re_lf 18 (some (.baload)))) (re_br 22 (re_lf 19 (some (.ifCond .ne 13))) (re_lf 22 (some (.new 211))))) (re_br 28 (re_br 26 (re_lf 25 (some (.dup))) (re_lf 26 (some (.ldc 254)))) (re_br 31 (re_lf 28 (some (.invokespecial 215))) (re_br 32 (re_lf 31 (some (.athrow))) (re_lf 32 (some (.return_))))))))
def rI20 : Nat → Option Instr := (re_br 35 (re_br 17 (re_br 6 (re_br 2 (re_br 1 (re_lf 0 (some (.aload_n 0))) (re_lf 1 (some (.iload_n 1)))) (re_br 5 (re_lf 2 (some (.invokevirtual 125))) (re_lf 5 (some (.aload_n 0))))) (re_br 10 (re_br 7 (re_lf 6 (some (.iload_n 2))) (re_lf 7 (some (.invokevirtual 81)))) (re_br 11 (re_lf 10 (some (.aload_n 0))) (re_br 14 (re_lf 11 (some (.getfield 18))) (re_lf 14 (some (.getfield 128))))))) (re_br 22 (re_br 19 (re_br 18 (re_lf 17 (some (.iload_n 1))) (re_lf 18 (some (.aaload)))) (re_br 20 (re_lf 19 (some (.astore_n 3))) (re_br 21 (re_lf 20 (some (.aload_n 3))) (re_lf 21 (some (.iload_n 2)))))) (re_br 27 (re_br 25 (re_lf 22 (some (.invokevirtual 137))) (re_lf 25 (some (.istore 4)))) (re_br 29 (re_lf 27 (some (.iload 4))) (re_br 32 (re_lf 29 (some (.ifCond .ge 13))) (re_lf 32 (some (.new 105)))))))) (re_br 52 (re_br 42 (re_br 38 (re_br 36 (re_lf 35 (some (.dup))) (re_lf 36 (some (.ldc 151)))) (re_br 41 (re_lf 38 (some (.invokespecial 109))) (re_lf 41 (some (.athrow))))) (re_br 45 (re_br 43 (re_lf 42 (some (.aload_n 3))) (re_lf 43 (some (.iload 4)))) (re_br 48 (re_lf 45 (some (.invokevirtual 153))) (re_br 49 (re_lf 48 (some (.aload_n 0))) (re_lf 49 (some (.getfield 27))))))) (re_br 63 (re_br 56 (re_br 55 (re_lf 52 (some (.invokevirtual 114))) (re_lf 55 (some (.aload_n 0)))) (re_br 59 (re_lf 56 (some (.getfield 56))) (re_br 60 (re_lf 59 (some (.aload_n 0))) (re_lf 60 (some (.invokevirtual 117)))))) (re_br 67 (re_br 66 (re_lf 63 (some (.invokevirtual 121))) (re_lf 66 (some (.pop)))) (re_br 68 (re_lf 67 (some (.aload_n 3))) (re_br 71 (re_lf 68 (some (.getfield 142))) (re_lf 71 (some (.ireturn)))))))))
def rI21 : Nat → Option Instr := (re_br 22 (re_br 10 (re_br 5 (re_br 1 (re_lf 0 (some (.aload_n 0))) (re_br 2 (re_lf 1 (some (.iload_n 1))) (re_lf 2 (some (.invokevirtual 125))))) (re_br 6 (re_lf 5 (some (.aload_n 0))) (re_br 9 (re_lf 6 (some (.getfield 18))) (re_lf 9 (some (.iload_n 1)))))) (re_br 17 (re_br 13 (re_lf 10 (some (.invokevirtual 156))) (re_br 14 (re_lf 13 (some (.aload_n 0))) (re_lf 14 (some (.getfield 56))))) (re_br 18 (re_lf 17 (some (.iload_n 1))) (re_br 21 (re_lf 18 (some (.invokevirtual 159))) (re_lf 21 (some (.aload_n 0))))))) (re_br 36 (re_br 29 (re_br 25 (re_lf 22 (some (.getfield 27))) (re_br 28 (re_lf 25 (some (.invokevirtual 114))) (re_lf 28 (some (.aload_n 0))))) (re_br 32 (re_lf 29 (some (.getfield 56))) (re_br 33 (re_lf 32 (some (.aload_n 0))) (re_lf 33 (some (.invokevirtual 117)))))) (re_br 41 (re_br 39 (re_lf 36 (some (.invokevirtual 121))) (re_br 40 (re_lf 39 (some (.pop))) (re_lf 40 (some (.aload_n 0))))) (re_br 47 (re_br 44 (re_lf 41 (some (.getfield 18))) (re_lf 44 (some (.invokevirtual 162)))) (re_br 50 (re_lf 47 (some (.invokestatic 165))) (re_lf 50 (some (.ireturn))))))))
def rI22 : Nat → Option Instr := (re_br 43 (re_br 19 (re_br 7 (re_br 2 (re_br 1 (re_lf 0 (some (.aload_n 0))) (re_lf 1 (some (.iload_n 1)))) (re_br 5 (re_lf 2 (some (.invokevirtual 81))) (re_br 6 (re_lf 5 (some (.aload_n 0))) (re_lf 6 (some (.iload_n 2)))))) (re_br 12 (re_br 10 (re_lf 7 (some (.invokevirtual 81))) (re_br 11 (re_lf 10 (some (.iload_n 1))) (re_lf 11 (some (.iload_n 2))))) (re_br 15 (re_lf 12 (some (.if_icmp .eq 14))) (re_br 16 (re_lf 15 (some (.aload_n 0))) (re_lf 16 (some (.getfield 18))))))) (re_br 30 (re_br 23 (re_br 20 (re_lf 19 (some (.iload_n 2))) (re_lf 20 (some (.invokevirtual 170)))) (re_br 26 (re_lf 23 (some (.ifCond .eq 13))) (re_br 29 (re_lf 26 (some (.new 105))) (re_lf 29 (some (.dup)))))) (re_br 36 (re_br 32 (re_lf 30 (some (.ldc 174))) (re_br 35 (re_lf 32 (some (.invokespecial 109))) (re_lf 35 (some (.athrow))))) (re_br 37 (re_lf 36 (some (.aload_n 0))) (re_br 40 (re_lf 37 (some (.getfield 27))) (re_lf 40 (some (.getfield 176)))))))) (re_br 60 (re_br 50 (re_br 45 (re_br 44 (re_lf 43 (some (.iload_n 1))) (re_lf 44 (some (.iaload)))) (re_br 48 (re_lf 45 (some (.ifCond .ne 5))) (re_br 49 (re_lf 48 (some (.iconst 0))) (re_lf 49 (some (.ireturn)))))) (re_br 55 (re_br 51 (re_lf 50 (some (.aload_n 0))) (re_br 54 (re_lf 51 (some (.getfield 18))) (re_lf 54 (some (.iload_n 1))))) (re_br 56 (re_lf 55 (some (.iload_n 2))) (re_br 59 (re_lf 56 (some (.invokevirtual 180))) (re_lf 59 (some (.istore_n 3))))))) (re_br 71 (re_br 64 (re_br 61 (re_lf 60 (some (.aload_n 0))) (re_lf 61 (some (.getfield 27)))) (re_br 67 (re_lf 64 (some (.invokevirtual 114))) (re_br 68 (re_lf 67 (some (.aload_n 0))) (re_lf 68 (some (.getfield 56)))))) (re_br 78 (re_br 72 (re_lf 71 (some (.aload_n 0))) (re_br 75 (re_lf 72 (some (.invokevirtual 117))) (re_lf 75 (some (.invokevirtual 121))))) (re_br 79 (re_lf 78 (some (.pop))) (re_br 80 (re_lf 79 (some (.iload_n 3))) (re_lf 80 (some (.ireturn)))))))))
def rI23 : Nat → Option Instr := (re_br 20 (re_br 9 (re_br 2 (re_br 1 (re_lf 0 (some (.aload_n 0))) (re_lf 1 (some (.iload_n 1)))) (re_br 5 (re_lf 2 (some (.invokevirtual 85))) (re_br 6 (re_lf 5 (some (.aload_n 0))) (re_lf 6 (some (.getfield 34)))))) (re_br 14 (re_br 12 (re_lf 9 (some (.getfield 184))) (re_br 13 (re_lf 12 (some (.iload_n 1))) (re_lf 13 (some (.laload))))) (re_br 16 (re_lf 14 (some (.lstore 4))) (re_br 17 (re_lf 16 (some (.aload_n 0))) (re_lf 17 (some (.getfield 34))))))) (re_br 30 (re_br 25 (re_br 23 (re_lf 20 (some (.getfield 184))) (re_br 24 (re_lf 23 (some (.iload_n 1))) (re_lf 24 (some (.lload_n 2))))) (re_br 26 (re_lf 25 (some (.lastore))) (re_br 27 (re_lf 26 (some (.aload_n 0))) (re_lf 27 (some (.getfield 56)))))) (re_br 37 (re_br 31 (re_lf 30 (some (.aload_n 0))) (re_br 34 (re_lf 31 (some (.invokevirtual 117))) (re_lf 34 (some (.invokevirtual 121))))) (re_br 38 (re_lf 37 (some (.pop))) (re_br 40 (re_lf 38 (some (.lload 4))) (re_lf 40 (some (.lreturn))))))))
def rI24 : Nat → Option Instr := (re_br 16 (re_br 8 (re_br 4 (re_br 1 (re_lf 0 (some (.aload_n 0))) (re_lf 1 (some (.getfield 34)))) (re_br 7 (re_lf 4 (some (.getfield 188))) (re_lf 7 (some (.istore_n 2))))) (re_br 12 (re_br 9 (re_lf 8 (some (.aload_n 0))) (re_lf 9 (some (.getfield 34)))) (re_br 13 (re_lf 12 (some (.iload_n 1))) (re_lf 13 (some (.putfield 188)))))) (re_br 24 (re_br 20 (re_br 17 (re_lf 16 (some (.aload_n 0))) (re_lf 17 (some (.getfield 56)))) (re_br 21 (re_lf 20 (some (.aload_n 0))) (re_lf 21 (some (.invokevirtual 117))))) (re_br 28 (re_br 27 (re_lf 24 (some (.invokevirtual 121))) (re_lf 27 (some (.pop)))) (re_br 29 (re_lf 28 (some (.iload_n 2))) (re_lf 29 (some (.ireturn)))))))
def rI25 : Nat → Option Instr := (re_br 23 (re_br 12 (re_br 5 (re_br 1 (re_lf 0 (some (.iload_n 1))) (re_br 4 (re_lf 1 (some (.ifCond .lt 8))) (re_lf 4 (some (.iload_n 1))))) (re_br 6 (re_lf 5 (some (.iconst 2))) (re_br 9 (re_lf 6 (some (.if_icmp .le 13))) (re_lf 9 (some (.new 95)))))) (re_br 18 (re_br 13 (re_lf 12 (some (.dup))) (re_br 15 (re_lf 13 (some (.ldc 191))) (re_lf 15 (some (.invokespecial 99))))) (re_br 19 (re_lf 18 (some (.athrow))) (re_br 20 (re_lf 19 (some (.aload_n 0))) (re_lf 20 (some (.getfield 67))))))) (re_br 33 (re_br 26 (re_br 24 (re_lf 23 (some (.istore_n 2))) (re_br 25 (re_lf 24 (some (.aload_n 0))) (re_lf 25 (some (.iload_n 1))))) (re_br 29 (re_lf 26 (some (.putfield 67))) (re_br 30 (re_lf 29 (some (.aload_n 0))) (re_lf 30 (some (.getfield 56)))))) (re_br 40 (re_br 34 (re_lf 33 (some (.aload_n 0))) (re_br 37 (re_lf 34 (some (.invokevirtual 117))) (re_lf 37 (some (.invokevirtual 121))))) (re_br 41 (re_lf 40 (some (.pop))) (re_br 42 (re_lf 41 (some (.iload_n 2))) (re_lf 42 (some (.ireturn))))))))
def rI26 : Nat → Option Instr := (re_br 22 (re_br 10 (re_br 5 (re_br 1 (re_lf 0 (some (.aload_n 0))) (re_br 2 (re_lf 1 (some (.iload_n 1))) (re_lf 2 (some (.invokevirtual 125))))) (re_br 6 (re_lf 5 (some (.aload_n 0))) (re_br 9 (re_lf 6 (some (.getfield 67))) (re_lf 9 (some (.iconst 2)))))) (re_br 17 (re_br 13 (re_lf 10 (some (.if_icmp .ne 12))) (re_br 14 (re_lf 13 (some (.aload_n 0))) (re_lf 14 (some (.getfield 56))))) (re_br 18 (re_lf 17 (some (.iload_n 1))) (re_br 21 (re_lf 18 (some (.invokevirtual 193))) (re_lf 21 (some (.ireturn))))))) (re_br 34 (re_br 27 (re_br 23 (re_lf 22 (some (.aload_n 0))) (re_br 26 (re_lf 23 (some (.getfield 56))) (re_lf 26 (some (.aload_n 0))))) (re_br 30 (re_lf 27 (some (.getfield 27))) (re_br 33 (re_lf 30 (some (.getfield 196))) (re_lf 33 (some (.iload_n 1)))))) (re_br 37 (re_br 35 (re_lf 34 (some (.iaload))) (re_br 36 (re_lf 35 (some (.iconst 1))) (re_lf 36 (some (.iload_n 1))))) (re_br 39 (re_br 38 (re_lf 37 (some (.ishl))) (re_lf 38 (some (.ior)))) (re_br 42 (re_lf 39 (some (.invokevirtual 121))) (re_lf 42 (some (.ireturn))))))))
def rI27 : Nat → Option Instr := (re_br 28 (re_br 14 (re_br 5 (re_br 1 (re_lf 0 (some (.aload_n 0))) (re_br 4 (re_lf 1 (some (.getfield 199))) (re_lf 4 (some (.iconst 4))))) (re_br 11 (re_br 8 (re_lf 5 (some (.if_icmp .lt 13))) (re_lf 8 (some (.new 105)))) (re_br 12 (re_lf 11 (some (.dup))) (re_lf 12 (some (.ldc 202)))))) (re_br 22 (re_br 18 (re_br 17 (re_lf 14 (some (.invokespecial 109))) (re_lf 17 (some (.athrow)))) (re_br 21 (re_lf 18 (some (.new 15))) (re_lf 21 (some (.dup))))) (re_br 26 (re_br 25 (re_lf 22 (some (.invokespecial 17))) (re_lf 25 (some (.astore_n 1)))) (re_br 27 (re_lf 26 (some (.aload_n 1))) (re_lf 27 (some (.aload_n 0))))))) (re_br 44 (re_br 38 (re_br 34 (re_br 31 (re_lf 28 (some (.getfield 18))) (re_lf 31 (some (.invokevirtual 204)))) (re_br 35 (re_lf 34 (some (.aload_n 0))) (re_lf 35 (some (.getfield 63))))) (re_br 42 (re_br 39 (re_lf 38 (some (.aload_n 0))) (re_lf 39 (some (.getfield 199)))) (re_br 43 (re_lf 42 (some (.aload_n 1))) (re_lf 43 (some (.aastore)))))) (re_br 50 (re_br 46 (re_br 45 (re_lf 44 (some (.aload_n 0))) (re_lf 45 (some (.dup)))) (re_br 49 (re_lf 46 (some (.getfield 199))) (re_lf 49 (some (.dup_x1))))) (re_br 52 (re_br 51 (re_lf 50 (some (.iconst 1))) (re_lf 51 (some (.iadd)))) (re_br 55 (re_lf 52 (some (.putfield 199))) (re_lf 55 (some (.ireturn))))))))
def rI28 : Nat → Option Instr := (re_br 49 (re_br 24 (re_br 10 (re_br 5 (re_br 1 (re_lf 0 (some (.aload_n 0))) (re_br 2 (re_lf 1 (some (.iload_n 1))) (re_lf 2 (some (.invokevirtual 207))))) (re_br 6 (re_lf 5 (some (.astore_n 3))) (re_br 7 (re_lf 6 (some (.iload_n 2))) (re_lf 7 (some (.ifCond .lt 11)))))) (re_br 15 (re_br 11 (re_lf 10 (some (.iload_n 2))) (re_br 12 (re_lf 11 (some (.aload_n 0))) (re_lf 12 (some (.getfield 102))))) (re_br 21 (re_br 18 (re_lf 15 (some (.if_icmp .lt 13))) (re_lf 18 (some (.new 211)))) (re_br 22 (re_lf 21 (some (.dup))) (re_lf 22 (some (.ldc 213))))))) (re_br 34 (re_br 29 (re_br 27 (re_lf 24 (some (.invokespecial 215))) (re_br 28 (re_lf 27 (some (.athrow))) (re_lf 28 (some (.aload_n 0))))) (re_br 32 (re_lf 29 (some (.getfield 18))) (re_br 33 (re_lf 32 (some (.aload_n 3))) (re_lf 33 (some (.iload_n 2)))))) (re_br 41 (re_br 37 (re_lf 34 (some (.invokevirtual 216))) (re_br 40 (re_lf 37 (some (.ifCond .eq 5))) (re_lf 40 (some (.iconst 0))))) (re_br 43 (re_br 42 (re_lf 41 (some (.ireturn))) (re_lf 42 (some (.aload_n 0)))) (re_br 46 (re_lf 43 (some (.getfield 18))) (re_lf 46 (some (.getfield 110)))))))) (re_br 72 (re_br 57 (re_br 52 (re_br 50 (re_lf 49 (some (.iload_n 2))) (re_br 51 (re_lf 50 (some (.baload))) (re_lf 51 (some (.aload_n 3))))) (re_br 55 (re_lf 52 (some (.getfield 110))) (re_br 56 (re_lf 55 (some (.iload_n 2))) (re_lf 56 (some (.baload)))))) (re_br 64 (re_br 60 (re_lf 57 (some (.if_icmp .eq 11))) (re_br 61 (re_lf 60 (some (.aload_n 0))) (re_lf 61 (some (.getfield 56))))) (re_br 68 (re_br 65 (re_lf 64 (some (.iload_n 2))) (re_lf 65 (some (.invokevirtual 159)))) (re_br 69 (re_lf 68 (some (.aload_n 0))) (re_lf 69 (some (.getfield 18))))))) (re_br 85 (re_br 77 (re_br 73 (re_lf 72 (some (.aload_n 3))) (re_br 74 (re_lf 73 (some (.iload_n 2))) (re_lf 74 (some (.invokevirtual 220))))) (re_br 81 (re_br 78 (re_lf 77 (some (.aload_n 0))) (re_lf 78 (some (.getfield 27)))) (re_br 84 (re_lf 81 (some (.invokevirtual 114))) (re_lf 84 (some (.aload_n 0)))))) (re_br 92 (re_br 88 (re_lf 85 (some (.getfield 56))) (re_br 89 (re_lf 88 (some (.aload_n 0))) (re_lf 89 (some (.invokevirtual 117))))) (re_br 96 (re_br 95 (re_lf 92 (some (.invokevirtual 121))) (re_lf 95 (some (.pop)))) (re_br 97 (re_lf 96 (some (.iconst 1))) (re_lf 97 (some (.ireturn)))))))))
def rI29 : Nat → Option Instr := (re_br 21 (re_br 9 (re_br 4 (re_br 1 (re_lf 0 (some (.iload_n 1))) (re_lf 1 (some (.ifCond .lt 11)))) (re_br 5 (re_lf 4 (some (.iload_n 1))) (re_br 6 (re_lf 5 (some (.aload_n 0))) (re_lf 6 (some (.getfield 199)))))) (re_br 16 (re_br 12 (re_lf 9 (some (.if_icmp .lt 7))) (re_br 13 (re_lf 12 (some (.aconst_null))) (re_lf 13 (some (.goto 9))))) (re_br 17 (re_lf 16 (some (.aload_n 0))) (re_br 20 (re_lf 17 (some (.getfield 63))) (re_lf 20 (some (.iload_n 1))))))) (re_br 30 (re_br 23 (re_br 22 (re_lf 21 (some (.aaload))) (re_lf 22 (some (.astore_n 2)))) (re_br 24 (re_lf 23 (some (.aload_n 2))) (re_br 27 (re_lf 24 (some (.ifnonnull 14))) (re_lf 27 (some (.new 211)))))) (re_br 37 (re_br 31 (re_lf 30 (some (.dup))) (re_br 34 (re_lf 31 (some (.ldc_w 260))) (re_lf 34 (some (.invokespecial 215))))) (re_br 38 (re_lf 37 (some (.athrow))) (re_br 39 (re_lf 38 (some (.aload_n 2))) (re_lf 39 (some (.areturn))))))))
def rI30 : Nat → Option Instr := (re_br 22 (re_br 8 (re_br 5 (re_br 1 (re_lf 0 (some (.aload_n 0))) (re_br 2 (re_lf 1 (some (.iload_n 1))) (re_lf 2 (some (.invokevirtual 207))))) (re_br 6 (re_lf 5 (some (.astore_n 2))) (re_br 7 (re_lf 6 (some (.iconst 0))) (re_lf 7 (some (.istore_n 3)))))) (re_br 13 (re_br 9 (re_lf 8 (some (.iconst 0))) (re_br 11 (re_lf 9 (some (.istore 4))) (re_lf 11 (some (.iload 4))))) (re_br 18 (re_br 15 (re_lf 13 (some (.bipush 12))) (re_lf 15 (some (.if_icmp .ge 29)))) (re_br 19 (re_lf 18 (some (.aload_n 0))) (re_lf 19 (some (.getfield 18))))))) (re_br 35 (re_br 28 (re_br 23 (re_lf 22 (some (.aload_n 2))) (re_br 25 (re_lf 23 (some (.iload 4))) (re_lf 25 (some (.invokevirtual 216))))) (re_br 32 (re_br 31 (re_lf 28 (some (.ifCond .ne 10))) (re_lf 31 (some (.iload_n 3)))) (re_br 33 (re_lf 32 (some (.iconst 1))) (re_lf 33 (some (.iload 4)))))) (re_br 38 (re_br 36 (re_lf 35 (some (.ishl))) (re_br 37 (re_lf 36 (some (.ior))) (re_lf 37 (some (.istore_n 3))))) (re_br 44 (re_br 41 (re_lf 38 (some (.iinc 4 1))) (re_lf 41 (some (.goto (-30))))) (re_br 45 (re_lf 44 (some (.iload_n 3))) (re_lf 45 (some (.ireturn))))))))
def rI31 : Nat → Option Instr := (re_br 6 (re_br 2 (re_br 1 (re_lf 0 (some (.aload_n 0))) (re_lf 1 (some (.iload_n 1)))) (re_br 5 (re_lf 2 (some (.invokevirtual 125))) (re_lf 5 (some (.aload_n 0))))) (re_br 10 (re_br 9 (re_lf 6 (some (.getfield 56))) (re_lf 9 (some (.iload_n 1)))) (re_br 13 (re_lf 10 (some (.invokevirtual 224))) (re_br 16 (re_lf 13 (some (.getfield 228))) (re_lf 16 (some (.ireturn)))))))
def rI32 : Nat → Option Instr := (re_br 14 (re_br 6 (re_br 2 (re_br 1 (re_lf 0 (some (.aload_n 0))) (re_lf 1 (some (.iload_n 1)))) (re_br 5 (re_lf 2 (some (.invokevirtual 125))) (re_lf 5 (some (.aload_n 0))))) (re_br 12 (re_br 9 (re_lf 6 (some (.getfield 56))) (re_lf 9 (some (.invokevirtual 231)))) (re_br 13 (re_lf 12 (some (.iload_n 1))) (re_lf 13 (some (.ishr)))))) (re_br 20 (re_br 16 (re_br 15 (re_lf 14 (some (.iconst 1))) (re_lf 15 (some (.iand)))) (re_br 17 (re_lf 16 (some (.iconst 1))) (re_lf 17 (some (.if_icmp .ne 7))))) (re_br 24 (re_br 21 (re_lf 20 (some (.iconst 1))) (re_lf 21 (some (.goto 4)))) (re_br 25 (re_lf 24 (some (.iconst 0))) (re_lf 25 (some (.ireturn)))))))
def rI33 : Nat → Option Instr := (re_br 10 (re_br 5 (re_br 1 (re_lf 0 (some (.aload_n 0))) (re_br 2 (re_lf 1 (some (.iload_n 1))) (re_lf 2 (some (.invokevirtual 125))))) (re_br 6 (re_lf 5 (some (.aload_n 0))) (re_br 7 (re_lf 6 (some (.iload_n 2))) (re_lf 7 (some (.invokevirtual 81)))))) (re_br 15 (re_br 11 (re_lf 10 (some (.aload_n 0))) (re_br 14 (re_lf 11 (some (.getfield 56))) (re_lf 14 (some (.iload_n 1))))) (re_br 19 (re_br 18 (re_lf 15 (some (.invokevirtual 224))) (re_lf 18 (some (.iload_n 2)))) (re_br 22 (re_lf 19 (some (.invokevirtual 234))) (re_lf 22 (some (.ireturn)))))))
def rI34 : Nat → Option Instr := (re_br 20 (re_br 10 (re_br 5 (re_br 1 (re_lf 0 (some (.aload_n 0))) (re_br 2 (re_lf 1 (some (.iload_n 1))) (re_lf 2 (some (.invokevirtual 125))))) (re_br 6 (re_lf 5 (some (.aload_n 0))) (re_br 7 (re_lf 6 (some (.iload_n 2))) (re_lf 7 (some (.invokevirtual 81)))))) (re_br 15 (re_br 11 (re_lf 10 (some (.aload_n 0))) (re_br 14 (re_lf 11 (some (.getfield 56))) (re_lf 14 (some (.iload_n 1))))) (re_br 18 (re_lf 15 (some (.invokevirtual 224))) (re_br 19 (re_lf 18 (some (.astore_n 3))) (re_lf 19 (some (.aload_n 3))))))) (re_br 32 (re_br 25 (re_br 21 (re_lf 20 (some (.iload_n 2))) (re_br 24 (re_lf 21 (some (.invokevirtual 234))) (re_lf 24 (some (.iconst 1))))) (re_br 28 (re_lf 25 (some (.if_icmp .eq 13))) (re_br 31 (re_lf 28 (some (.new 105))) (re_lf 31 (some (.dup)))))) (re_br 38 (re_br 34 (re_lf 32 (some (.ldc 237))) (re_br 37 (re_lf 34 (some (.invokespecial 109))) (re_lf 37 (some (.athrow))))) (re_br 40 (re_br 39 (re_lf 38 (some (.aload_n 3))) (re_lf 39 (some (.iload_n 2)))) (re_br 43 (re_lf 40 (some (.invokevirtual 239))) (re_lf 43 (some (.lreturn))))))))
def rI35 : Nat → Option Instr := (re_br 29 (re_br 11 (re_br 5 (re_br 1 (re_lf 0 (some (.aload_n 0))) (re_br 2 (re_lf 1 (some (.iload_n 1))) (re_lf 2 (some (.invokevirtual 125))))) (re_br 7 (re_br 6 (re_lf 5 (some (.aload_n 0))) (re_lf 6 (some (.iload_n 2)))) (re_br 10 (re_lf 7 (some (.invokevirtual 81))) (re_lf 10 (some (.aload_n 0)))))) (re_br 21 (re_br 17 (re_br 14 (re_lf 11 (some (.getfield 60))) (re_lf 14 (some (.invokevirtual 243)))) (re_br 18 (re_lf 17 (some (.aload_n 0))) (re_lf 18 (some (.getfield 60))))) (re_br 27 (re_br 24 (re_lf 21 (some (.sipush 4095))) (re_lf 24 (some (.invokevirtual 121)))) (re_br 28 (re_lf 27 (some (.pop))) (re_lf 28 (some (.aload_n 0))))))) (re_br 42 (re_br 36 (re_br 32 (re_lf 29 (some (.getfield 60))) (re_br 33 (re_lf 32 (some (.iload_n 1))) (re_lf 33 (some (.invokevirtual 224))))) (re_br 38 (re_br 37 (re_lf 36 (some (.astore_n 3))) (re_lf 37 (some (.aload_n 3)))) (re_br 39 (re_lf 38 (some (.iload_n 2))) (re_lf 39 (some (.invokevirtual 234)))))) (re_br 48 (re_br 46 (re_br 43 (re_lf 42 (some (.iconst 1))) (re_lf 43 (some (.if_icmp .ne 11)))) (re_br 47 (re_lf 46 (some (.aload_n 3))) (re_lf 47 (some (.iload_n 2))))) (re_br 54 (re_br 51 (re_lf 48 (some (.invokevirtual 239))) (re_lf 51 (some (.goto 6)))) (re_br 57 (re_lf 54 (some (.ldc2_w 246))) (re_lf 57 (some (.lreturn))))))))
def rI36 : Nat → Option Instr := (re_br 16 (re_br 6 (re_br 2 (re_br 1 (re_lf 0 (some (.aload_n 0))) (re_lf 1 (some (.iload_n 1)))) (re_br 5 (re_lf 2 (some (.invokevirtual 125))) (re_lf 5 (some (.aload_n 0))))) (re_br 12 (re_br 9 (re_lf 6 (some (.getfield 60))) (re_lf 9 (some (.invokevirtual 243)))) (re_br 13 (re_lf 12 (some (.aload_n 0))) (re_lf 13 (some (.getfield 60)))))) (re_br 24 (re_br 22 (re_br 19 (re_lf 16 (some (.sipush 4095))) (re_lf 19 (some (.invokevirtual 121)))) (re_br 23 (re_lf 22 (some (.pop))) (re_lf 23 (some (.aload_n 0))))) (re_br 28 (re_br 27 (re_lf 24 (some (.getfield 60))) (re_lf 27 (some (.iload_n 1)))) (re_br 31 (re_lf 28 (some (.invokevirtual 224))) (re_br 34 (re_lf 31 (some (.getfield 228))) (re_lf 34 (some (.ireturn))))))))
def rI37 : Nat → Option Instr := (re_br 6 (re_br 2 (re_br 1 (re_lf 0 (some (.aload_n 0))) (re_lf 1 (some (.iload_n 1)))) (re_br 5 (re_lf 2 (some (.invokevirtual 125))) (re_lf 5 (some (.aload_n 0))))) (re_br 12 (re_br 9 (re_lf 6 (some (.getfield 27))) (re_lf 9 (some (.getfield 248)))) (re_br 13 (re_lf 12 (some (.iload_n 1))) (re_br 14 (re_lf 13 (some (.iaload))) (re_lf 14 (some (.ireturn)))))))
def rI38 : Nat → Option Instr := (re_br 12 (re_br 5 (re_br 1 (re_lf 0 (some (.aload_n 0))) (re_br 2 (re_lf 1 (some (.iload_n 1))) (re_lf 2 (some (.invokevirtual 125))))) (re_br 6 (re_lf 5 (some (.aload_n 0))) (re_br 9 (re_lf 6 (some (.getfield 27))) (re_lf 9 (some (.getfield 196)))))) (re_br 15 (re_br 13 (re_lf 12 (some (.iload_n 1))) (re_br 14 (re_lf 13 (some (.iaload))) (re_lf 14 (some (.iconst 1))))) (re_br 17 (re_br 16 (re_lf 15 (some (.iload_n 1))) (re_lf 16 (some (.ishl)))) (re_br 18 (re_lf 17 (some (.ior))) (re_lf 18 (some (.ireturn)))))))
def rI39 : Nat → Option Instr := (re_br 6 (re_br 2 (re_br 1 (re_lf 0 (some (.aload_n 0))) (re_lf 1 (some (.iload_n 1)))) (re_br 5 (re_lf 2 (some (.invokevirtual 125))) (re_lf 5 (some (.aload_n 0))))) (re_br 10 (re_br 9 (re_lf 6 (some (.getfield 56))) (re_lf 9 (some (.iload_n 1)))) (re_br 13 (re_lf 10 (some (.invokevirtual 224))) (re_br 16 (re_lf 13 (some (.getfield 251))) (re_lf 16 (some (.ireturn)))))))
def rI64 : Nat → Option Instr := (re_br 23 (re_br 12 (re_br 5 (re_br 1 (re_lf 0 (some (.aload_n 0))) (re_br 4 (re_lf 1 (some (.invokespecial 3))) (re_lf 4 (some (.aload_n 0))))) (re_br 7 (re_lf 5 (some (.bipush 12))) (re_br 9 (re_lf 7 (some (.newarray .boolean))) (re_lf 9 (some (.putfield 9)))))) (re_br 18 (re_br 13 (re_lf 12 (some (.aload_n 0))) (re_br 15 (re_lf 13 (some (.bipush 12))) (re_lf 15 (some (.anewarray 15))))) (re_br 21 (re_lf 18 (some (.putfield 17))) (re_br 22 (re_lf 21 (some (.iconst 0))) (re_lf 22 (some (.istore_n 1))))))) (re_br 34 (re_br 29 (re_br 24 (re_lf 23 (some (.iload_n 1))) (re_br 26 (re_lf 24 (some (.bipush 12))) (re_lf 26 (some (.if_icmp .ge 22))))) (re_br 30 (re_lf 29 (some (.aload_n 0))) (re_br 33 (re_lf 30 (some (.getfield 17))) (re_lf 33 (some (.iload_n 1)))))) (re_br 41 (re_br 37 (re_lf 34 (some (.new 15))) (re_br 38 (re_lf 37 (some (.dup))) (re_lf 38 (some (.invokespecial 21))))) (re_br 45 (re_br 42 (re_lf 41 (some (.aastore))) (re_lf 42 (some (.iinc 1 1)))) (re_br 48 (re_lf 45 (some (.goto (-22)))) (re_lf 48 (some (.return_))))))))
def rI65 : Nat → Option Instr := (re_br 17 (re_br 7 (re_br 3 (re_br 1 (re_lf 0 (some (.iconst 0))) (re_br 2 (re_lf 1 (some (.istore_n 1))) (re_lf 2 (some (.iconst 0))))) (re_br 4 (re_lf 3 (some (.istore_n 2))) (re_br 5 (re_lf 4 (some (.iload_n 2))) (re_lf 5 (some (.bipush 12)))))) (re_br 12 (re_br 10 (re_lf 7 (some (.if_icmp .ge 28))) (re_br 11 (re_lf 10 (some (.iload_n 1))) (re_lf 11 (some (.aload_n 0))))) (re_br 15 (re_lf 12 (some (.getfield 9))) (re_br 16 (re_lf 15 (some (.iload_n 2))) (re_lf 16 (some (.baload))))))) (re_br 27 (re_br 22 (re_br 20 (re_lf 17 (some (.ifCond .eq 9))) (re_br 21 (re_lf 20 (some (.iconst 1))) (re_lf 21 (some (.iload_n 2))))) (re_br 23 (re_lf 22 (some (.ishl))) (re_br 26 (re_lf 23 (some (.goto 4))) (re_lf 26 (some (.iconst 0)))))) (re_br 32 (re_br 28 (re_lf 27 (some (.ior))) (re_br 29 (re_lf 28 (some (.istore_n 1))) (re_lf 29 (some (.iinc 2 1))))) (re_br 35 (re_lf 32 (some (.goto (-28)))) (re_br 36 (re_lf 35 (some (.iload_n 1))) (re_lf 36 (some (.ireturn))))))))
def rI66 : Nat → Option Instr := (re_br 7 (re_br 4 (re_br 1 (re_lf 0 (some (.aload_n 0))) (re_lf 1 (some (.getfield 9)))) (re_br 5 (re_lf 4 (some (.iload_n 1))) (re_br 6 (re_lf 5 (some (.iconst 0))) (re_lf 6 (some (.bastore)))))) (re_br 12 (re_br 8 (re_lf 7 (some (.aload_n 0))) (re_br 11 (re_lf 8 (some (.getfield 17))) (re_lf 11 (some (.iload_n 1))))) (re_br 13 (re_lf 12 (some (.aaload))) (re_br 16 (re_lf 13 (some (.invokevirtual 22))) (re_lf 16 (some (.return_)))))))
def rI67 : Nat → Option Instr := (re_br 18 (re_br 8 (re_br 2 (re_br 1 (re_lf 0 (some (.iconst 0))) (re_lf 1 (some (.istore_n 2)))) (re_br 3 (re_lf 2 (some (.iload_n 2))) (re_br 5 (re_lf 3 (some (.bipush 12))) (re_lf 5 (some (.if_icmp .ge 28)))))) (re_br 13 (re_br 9 (re_lf 8 (some (.aload_n 0))) (re_br 12 (re_lf 9 (some (.getfield 17))) (re_lf 12 (some (.iload_n 2))))) (re_br 14 (re_lf 13 (some (.aaload))) (re_br 17 (re_lf 14 (some (.invokevirtual 37))) (re_lf 17 (some (.iload_n 1))))))) (re_br 25 (re_br 20 (re_br 19 (re_lf 18 (some (.ishr))) (re_lf 19 (some (.iconst 1)))) (re_br 21 (re_lf 20 (some (.iand))) (re_br 22 (re_lf 21 (some (.iconst 1))) (re_lf 22 (some (.if_icmp .ne 5)))))) (re_br 30 (re_br 26 (re_lf 25 (some (.iconst 1))) (re_br 27 (re_lf 26 (some (.ireturn))) (re_lf 27 (some (.iinc 2 1))))) (re_br 33 (re_lf 30 (some (.goto (-28)))) (re_br 34 (re_lf 33 (some (.iconst 0))) (re_lf 34 (some (.ireturn))))))))
def rI68 : Nat → Option Instr := (re_br 17 (re_br 7 (re_br 2 (re_br 1 (re_lf 0 (some (.iconst 0))) (re_lf 1 (some (.istore_n 3)))) (re_br 3 (re_lf 2 (some (.iconst 0))) (re_br 5 (re_lf 3 (some (.istore 4))) (re_lf 5 (some (.iload 4)))))) (re_br 12 (re_br 9 (re_lf 7 (some (.bipush 12))) (re_lf 9 (some (.if_icmp .ge 24)))) (re_br 13 (re_lf 12 (some (.iload_n 3))) (re_br 14 (re_lf 13 (some (.aload_n 0))) (re_lf 14 (some (.getfield 17))))))) (re_br 25 (re_br 20 (re_br 19 (re_lf 17 (some (.iload 4))) (re_lf 19 (some (.aaload)))) (re_br 21 (re_lf 20 (some (.iload_n 1))) (re_br 22 (re_lf 21 (some (.iload_n 2))) (re_lf 22 (some (.invokevirtual 41)))))) (re_br 30 (re_br 26 (re_lf 25 (some (.iadd))) (re_br 27 (re_lf 26 (some (.istore_n 3))) (re_lf 27 (some (.iinc 4 1))))) (re_br 33 (re_lf 30 (some (.goto (-25)))) (re_br 34 (re_lf 33 (some (.iload_n 3))) (re_lf 34 (some (.ireturn))))))))
def rI69 : Nat → Option Instr := (re_br 9 (re_br 3 (re_br 1 (re_lf 0 (some (.iconst 0))) (re_br 2 (re_lf 1 (some (.istore_n 2))) (re_lf 2 (some (.iload_n 2))))) (re_br 5 (re_lf 3 (some (.bipush 12))) (re_br 8 (re_lf 5 (some (.if_icmp .ge 15))) (re_lf 8 (some (.aload_n 0)))))) (re_br 14 (re_br 10 (re_lf 9 (some (.aload_n 1))) (re_br 11 (re_lf 10 (some (.iload_n 2))) (re_lf 11 (some (.invokevirtual 29))))) (re_br 17 (re_lf 14 (some (.iinc 2 1))) (re_br 20 (re_lf 17 (some (.goto (-15)))) (re_lf 20 (some (.return_)))))))
def rI70 : Nat → Option Instr := (re_br 13 (re_br 6 (re_br 4 (re_br 1 (re_lf 0 (some (.aload_n 0))) (re_lf 1 (some (.getfield 9)))) (re_br 5 (re_lf 4 (some (.iload_n 2))) (re_lf 5 (some (.aload_n 1))))) (re_br 10 (re_br 9 (re_lf 6 (some (.getfield 9))) (re_lf 9 (some (.iload_n 2)))) (re_br 11 (re_lf 10 (some (.baload))) (re_br 12 (re_lf 11 (some (.bastore))) (re_lf 12 (some (.aload_n 0))))))) (re_br 19 (re_br 17 (re_br 16 (re_lf 13 (some (.getfield 17))) (re_lf 16 (some (.iload_n 2)))) (re_br 18 (re_lf 17 (some (.aaload))) (re_lf 18 (some (.aload_n 1))))) (re_br 23 (re_br 22 (re_lf 19 (some (.getfield 17))) (re_lf 22 (some (.iload_n 2)))) (re_br 24 (re_lf 23 (some (.aaload))) (re_br 27 (re_lf 24 (some (.invokevirtual 25))) (re_lf 27 (some (.return_))))))))
def rI71 : Nat → Option Instr := (re_br 19 (re_br 7 (re_br 4 (re_br 1 (re_lf 0 (some (.aload_n 0))) (re_lf 1 (some (.getfield 9)))) (re_br 5 (re_lf 4 (some (.iload_n 2))) (re_br 6 (re_lf 5 (some (.baload))) (re_lf 6 (some (.aload_n 1)))))) (re_br 12 (re_br 10 (re_lf 7 (some (.getfield 9))) (re_br 11 (re_lf 10 (some (.iload_n 2))) (re_lf 11 (some (.baload))))) (re_br 15 (re_lf 12 (some (.if_icmp .ne 25))) (re_br 16 (re_lf 15 (some (.aload_n 0))) (re_lf 16 (some (.getfield 17))))))) (re_br 27 (re_br 22 (re_br 20 (re_lf 19 (some (.iload_n 2))) (re_br 21 (re_lf 20 (some (.aaload))) (re_lf 21 (some (.aload_n 1))))) (re_br 25 (re_lf 22 (some (.getfield 17))) (re_br 26 (re_lf 25 (some (.iload_n 2))) (re_lf 26 (some (.aaload)))))) (re_br 34 (re_br 30 (re_lf 27 (some (.invokevirtual 33))) (re_br 33 (re_lf 30 (some (.ifCond .eq 7))) (re_lf 33 (some (.iconst 1))))) (re_br 37 (re_lf 34 (some (.goto 4))) (re_br 38 (re_lf 37 (some (.iconst 0))) (re_lf 38 (some (.ireturn))))))))
def rI128 : Nat → Option Instr := (re_br 8 (re_br 4 (re_br 1 (re_lf 0 (some (.aload_n 0))) (re_lf 1 (some (.invokespecial 3)))) (re_br 5 (re_lf 4 (some (.aload_n 0))) (re_br 6 (re_lf 5 (some (.iconst 4))) (re_lf 6 (some (.newarray .int)))))) (re_br 13 (re_br 11 (re_lf 8 (some (.putfield 9))) (re_br 12 (re_lf 11 (some (.aload_n 0))) (re_lf 12 (some (.iconst 4))))) (re_br 16 (re_lf 13 (some (.anewarray 15))) (re_br 19 (re_lf 16 (some (.putfield 17))) (re_lf 19 (some (.return_)))))))
def rI129 : Nat → Option Instr := (re_br 33 (re_br 14 (re_br 5 (re_br 2 (re_br 1 (re_lf 0 (some (.iconst 0))) (re_lf 1 (some (.istore_n 1)))) (re_br 3 (re_lf 2 (some (.iconst 0))) (re_br 4 (re_lf 3 (some (.istore_n 2))) (re_lf 4 (some (.iconst 0)))))) (re_br 7 (re_br 6 (re_lf 5 (some (.istore_n 3))) (re_lf 6 (some (.iload_n 3)))) (re_br 8 (re_lf 7 (some (.aload_n 0))) (re_br 11 (re_lf 8 (some (.getfield 21))) (re_lf 11 (some (.if_icmp .ge 49))))))) (re_br 21 (re_br 16 (re_br 15 (re_lf 14 (some (.iload_n 1))) (re_lf 15 (some (.aload_n 0)))) (re_br 19 (re_lf 16 (some (.getfield 17))) (re_br 20 (re_lf 19 (some (.iload_n 3))) (re_lf 20 (some (.aaload)))))) (re_br 28 (re_br 24 (re_lf 21 (some (.ifnonnull 7))) (re_br 25 (re_lf 24 (some (.iconst 0))) (re_lf 25 (some (.goto 16))))) (re_br 29 (re_lf 28 (some (.aload_n 0))) (re_br 32 (re_lf 29 (some (.getfield 17))) (re_lf 32 (some (.iload_n 3)))))))) (re_br 45 (re_br 40 (re_br 37 (re_br 34 (re_lf 33 (some (.aaload))) (re_lf 34 (some (.getfield 33)))) (re_br 38 (re_lf 37 (some (.iload_n 2))) (re_br 39 (re_lf 38 (some (.iconst (-1)))) (re_lf 39 (some (.ixor)))))) (re_br 42 (re_br 41 (re_lf 40 (some (.iand))) (re_lf 41 (some (.ior)))) (re_br 43 (re_lf 42 (some (.istore_n 1))) (re_br 44 (re_lf 43 (some (.iload_n 2))) (re_lf 44 (some (.iconst 1))))))) (re_br 52 (re_br 49 (re_br 46 (re_lf 45 (some (.aload_n 0))) (re_lf 46 (some (.getfield 9)))) (re_br 50 (re_lf 49 (some (.iload_n 3))) (re_br 51 (re_lf 50 (some (.iaload))) (re_lf 51 (some (.ishl)))))) (re_br 57 (re_br 53 (re_lf 52 (some (.ior))) (re_br 54 (re_lf 53 (some (.istore_n 2))) (re_lf 54 (some (.iinc 3 1))))) (re_br 60 (re_lf 57 (some (.goto (-51)))) (re_br 61 (re_lf 60 (some (.iload_n 1))) (re_lf 61 (some (.ireturn)))))))))
def rI130 : Nat → Option Instr := (re_br 14 (re_br 5 (re_br 2 (re_br 1 (re_lf 0 (some (.iconst 0))) (re_lf 1 (some (.istore_n 1)))) (re_br 3 (re_lf 2 (some (.iconst 0))) (re_br 4 (re_lf 3 (some (.istore_n 2))) (re_lf 4 (some (.iload_n 2)))))) (re_br 9 (re_br 6 (re_lf 5 (some (.aload_n 0))) (re_lf 6 (some (.getfield 21)))) (re_br 12 (re_lf 9 (some (.if_icmp .ge 20))) (re_br 13 (re_lf 12 (some (.iload_n 1))) (re_lf 13 (some (.iconst 1))))))) (re_br 21 (re_br 18 (re_br 15 (re_lf 14 (some (.aload_n 0))) (re_lf 15 (some (.getfield 9)))) (re_br 19 (re_lf 18 (some (.iload_n 2))) (re_br 20 (re_lf 19 (some (.iaload))) (re_lf 20 (some (.ishl)))))) (re_br 26 (re_br 22 (re_lf 21 (some (.ior))) (re_br 23 (re_lf 22 (some (.istore_n 1))) (re_lf 23 (some (.iinc 2 1))))) (re_br 29 (re_lf 26 (some (.goto (-22)))) (re_br 30 (re_lf 29 (some (.iload_n 1))) (re_lf 30 (some (.ireturn))))))))
def rI131 : Nat → Option Instr := (re_br 33 (re_br 15 (re_br 8 (re_br 4 (re_br 1 (re_lf 0 (some (.aload_n 0))) (re_lf 1 (some (.getfield 21)))) (re_br 5 (re_lf 4 (some (.aload_n 1))) (re_lf 5 (some (.getfield 21))))) (re_br 12 (re_br 11 (re_lf 8 (some (.if_icmp .eq 5))) (re_lf 11 (some (.iconst 0)))) (re_br 13 (re_lf 12 (some (.ireturn))) (re_br 14 (re_lf 13 (some (.iconst 0))) (re_lf 14 (some (.istore_n 2))))))) (re_br 24 (re_br 17 (re_br 16 (re_lf 15 (some (.iload_n 2))) (re_lf 16 (some (.aload_n 0)))) (re_br 20 (re_lf 17 (some (.getfield 21))) (re_br 23 (re_lf 20 (some (.if_icmp .ge 44))) (re_lf 23 (some (.aload_n 0)))))) (re_br 28 (re_br 27 (re_lf 24 (some (.getfield 9))) (re_lf 27 (some (.iload_n 2)))) (re_br 29 (re_lf 28 (some (.iaload))) (re_br 30 (re_lf 29 (some (.aload_n 1))) (re_lf 30 (some (.getfield 9)))))))) (re_br 48 (re_br 39 (re_br 35 (re_br 34 (re_lf 33 (some (.iload_n 2))) (re_lf 34 (some (.iaload)))) (re_br 38 (re_lf 35 (some (.if_icmp .ne 21))) (re_lf 38 (some (.aload_n 0))))) (re_br 43 (re_br 42 (re_lf 39 (some (.getfield 17))) (re_lf 42 (some (.iload_n 2)))) (re_br 44 (re_lf 43 (some (.aaload))) (re_br 45 (re_lf 44 (some (.aload_n 1))) (re_lf 45 (some (.getfield 17))))))) (re_br 57 (re_br 50 (re_br 49 (re_lf 48 (some (.iload_n 2))) (re_lf 49 (some (.aaload)))) (re_br 53 (re_lf 50 (some (.invokestatic 29))) (re_br 56 (re_lf 53 (some (.ifCond .ne 5))) (re_lf 56 (some (.iconst 0)))))) (re_br 61 (re_br 58 (re_lf 57 (some (.ireturn))) (re_lf 58 (some (.iinc 2 1)))) (re_br 64 (re_lf 61 (some (.goto (-46)))) (re_br 65 (re_lf 64 (some (.iconst 1))) (re_lf 65 (some (.ireturn)))))))))
def rI132 : Nat → Option Instr := (re_br 19 (re_br 7 (re_br 2 (re_br 1 (re_lf 0 (some (.iconst 0))) (re_lf 1 (some (.istore_n 1)))) (re_br 3 (re_lf 2 (some (.iload_n 1))) (re_br 4 (re_lf 3 (some (.aload_n 0))) (re_lf 4 (some (.getfield 21)))))) (re_br 14 (re_br 10 (re_lf 7 (some (.if_icmp .ge 32))) (re_br 11 (re_lf 10 (some (.aload_n 0))) (re_lf 11 (some (.getfield 17))))) (re_br 15 (re_lf 14 (some (.iload_n 1))) (re_br 16 (re_lf 15 (some (.aaload))) (re_lf 16 (some (.ifnull 17))))))) (re_br 31 (re_br 24 (re_br 20 (re_lf 19 (some (.aload_n 0))) (re_br 23 (re_lf 20 (some (.getfield 17))) (re_lf 23 (some (.iload_n 1))))) (re_br 25 (re_lf 24 (some (.aaload))) (re_br 28 (re_lf 25 (some (.getfield 46))) (re_lf 28 (some (.ifCond .eq 5)))))) (re_br 36 (re_br 32 (re_lf 31 (some (.iconst 1))) (re_br 33 (re_lf 32 (some (.ireturn))) (re_lf 33 (some (.iinc 1 1))))) (re_br 39 (re_lf 36 (some (.goto (-34)))) (re_br 40 (re_lf 39 (some (.iconst 0))) (re_lf 40 (some (.ireturn))))))))
def rI133 : Nat → Option Instr := (re_br 19 (re_br 6 (re_br 3 (re_br 1 (re_lf 0 (some (.iconst 0))) (re_br 2 (re_lf 1 (some (.istore_n 1))) (re_lf 2 (some (.iconst 0))))) (re_br 4 (re_lf 3 (some (.istore_n 2))) (re_br 5 (re_lf 4 (some (.iload_n 2))) (re_lf 5 (some (.aload_n 0)))))) (re_br 13 (re_br 9 (re_lf 6 (some (.getfield 21))) (re_br 12 (re_lf 9 (some (.if_icmp .ge 34))) (re_lf 12 (some (.iload_n 1))))) (re_br 17 (re_br 14 (re_lf 13 (some (.aload_n 0))) (re_lf 14 (some (.getfield 17)))) (re_br 18 (re_lf 17 (some (.iload_n 2))) (re_lf 18 (some (.aaload))))))) (re_br 32 (re_br 26 (re_br 22 (re_lf 19 (some (.ifnonnull 7))) (re_br 23 (re_lf 22 (some (.iconst 0))) (re_lf 23 (some (.goto 12))))) (re_br 30 (re_br 27 (re_lf 26 (some (.aload_n 0))) (re_lf 27 (some (.getfield 17)))) (re_br 31 (re_lf 30 (some (.iload_n 2))) (re_lf 31 (some (.aaload)))))) (re_br 37 (re_br 35 (re_lf 32 (some (.getfield 43))) (re_br 36 (re_lf 35 (some (.ior))) (re_lf 36 (some (.istore_n 1))))) (re_br 43 (re_br 40 (re_lf 37 (some (.iinc 2 1))) (re_lf 40 (some (.goto (-36))))) (re_br 44 (re_lf 43 (some (.iload_n 1))) (re_lf 44 (some (.ireturn))))))))
def rI134 : Nat → Option Instr := (re_br 24 (re_br 11 (re_br 5 (re_br 1 (re_lf 0 (some (.aload_n 0))) (re_br 2 (re_lf 1 (some (.aload_n 1))) (re_lf 2 (some (.getfield 21))))) (re_br 9 (re_br 8 (re_lf 5 (some (.putfield 21))) (re_lf 8 (some (.iconst 0)))) (re_br 10 (re_lf 9 (some (.istore_n 2))) (re_lf 10 (some (.iload_n 2)))))) (re_br 16 (re_br 12 (re_lf 11 (some (.iconst 4))) (re_br 15 (re_lf 12 (some (.if_icmp .ge 33))) (re_lf 15 (some (.aload_n 0))))) (re_br 20 (re_br 19 (re_lf 16 (some (.getfield 9))) (re_lf 19 (some (.iload_n 2)))) (re_br 21 (re_lf 20 (some (.aload_n 1))) (re_lf 21 (some (.getfield 9))))))) (re_br 33 (re_br 27 (re_br 25 (re_lf 24 (some (.iload_n 2))) (re_br 26 (re_lf 25 (some (.iaload))) (re_lf 26 (some (.iastore))))) (re_br 31 (re_br 28 (re_lf 27 (some (.aload_n 0))) (re_lf 28 (some (.getfield 17)))) (re_br 32 (re_lf 31 (some (.iload_n 2))) (re_lf 32 (some (.aload_n 1)))))) (re_br 38 (re_br 36 (re_lf 33 (some (.getfield 17))) (re_br 37 (re_lf 36 (some (.iload_n 2))) (re_lf 37 (some (.aaload))))) (re_br 42 (re_br 39 (re_lf 38 (some (.aastore))) (re_lf 39 (some (.iinc 2 1)))) (re_br 45 (re_lf 42 (some (.goto (-32)))) (re_lf 45 (some (.return_))))))))
def rI135 : Nat → Option Instr := (re_br 16 (re_br 7 (re_br 2 (re_br 1 (re_lf 0 (some (.iconst 0))) (re_lf 1 (some (.istore_n 2)))) (re_br 3 (re_lf 2 (some (.iload_n 2))) (re_br 4 (re_lf 3 (some (.aload_n 0))) (re_lf 4 (some (.getfield 21)))))) (re_br 11 (re_br 10 (re_lf 7 (some (.if_icmp .ge 26))) (re_lf 10 (some (.iload_n 2)))) (re_br 12 (re_lf 11 (some (.iconst 4))) (re_br 15 (re_lf 12 (some (.if_icmp .ge 21))) (re_lf 15 (some (.aload_n 0))))))) (re_br 25 (re_br 20 (re_br 19 (re_lf 16 (some (.getfield 9))) (re_lf 19 (some (.iload_n 2)))) (re_br 21 (re_lf 20 (some (.iaload))) (re_br 22 (re_lf 21 (some (.iload_n 1))) (re_lf 22 (some (.if_icmp .ne 5)))))) (re_br 30 (re_br 26 (re_lf 25 (some (.iload_n 2))) (re_br 27 (re_lf 26 (some (.ireturn))) (re_lf 27 (some (.iinc 2 1))))) (re_br 33 (re_lf 30 (some (.goto (-28)))) (re_br 34 (re_lf 33 (some (.iconst (-1)))) (re_lf 34 (some (.ireturn))))))))
def rI136 : Nat → Option Instr := (re_br 25 (re_br 11 (re_br 5 (re_br 1 (re_lf 0 (some (.aload_n 0))) (re_br 2 (re_lf 1 (some (.iload_n 1))) (re_lf 2 (some (.invokevirtual 25))))) (re_br 7 (re_br 6 (re_lf 5 (some (.istore_n 3))) (re_lf 6 (some (.iload_n 3)))) (re_br 10 (re_lf 7 (some (.ifCond .ge 23))) (re_lf 10 (some (.aload_n 0)))))) (re_br 19 (re_br 15 (re_br 14 (re_lf 11 (some (.getfield 21))) (re_lf 14 (some (.iconst 4)))) (re_br 18 (re_lf 15 (some (.if_icmp .ge 15))) (re_lf 18 (some (.aload_n 0))))) (re_br 23 (re_br 20 (re_lf 19 (some (.dup))) (re_lf 20 (some (.getfield 21)))) (re_br 24 (re_lf 23 (some (.dup_x1))) (re_lf 24 (some (.iconst 1))))))) (re_br 39 (re_br 31 (re_br 29 (re_br 26 (re_lf 25 (some (.iadd))) (re_lf 26 (some (.putfield 21)))) (re_br 30 (re_lf 29 (some (.istore_n 3))) (re_lf 30 (some (.iload_n 3))))) (re_br 35 (re_br 34 (re_lf 31 (some (.ifCond .lt 17))) (re_lf 34 (some (.aload_n 0)))) (re_br 38 (re_lf 35 (some (.getfield 9))) (re_lf 38 (some (.iload_n 3)))))) (re_br 45 (re_br 41 (re_br 40 (re_lf 39 (some (.iload_n 1))) (re_lf 40 (some (.iastore)))) (re_br 42 (re_lf 41 (some (.aload_n 0))) (re_lf 42 (some (.getfield 17))))) (re_br 47 (re_br 46 (re_lf 45 (some (.iload_n 3))) (re_lf 46 (some (.aload_n 2)))) (re_br 48 (re_lf 47 (some (.aastore))) (re_lf 48 (some (.return_))))))))
def rI137 : Nat → Option Instr := (re_br 38 (re_br 19 (re_br 9 (re_br 4 (re_br 1 (re_lf 0 (some (.aload_n 0))) (re_lf 1 (some (.getfield 21)))) (re_br 7 (re_lf 4 (some (.ifCond .ne 4))) (re_br 8 (re_lf 7 (some (.return_))) (re_lf 8 (some (.aload_n 0)))))) (re_br 14 (re_br 10 (re_lf 9 (some (.dup))) (re_br 13 (re_lf 10 (some (.getfield 21))) (re_lf 13 (some (.iconst 1))))) (re_br 15 (re_lf 14 (some (.isub))) (re_br 18 (re_lf 15 (some (.putfield 21))) (re_lf 18 (some (.iload_n 1))))))) (re_br 28 (re_br 21 (re_br 20 (re_lf 19 (some (.istore_n 2))) (re_lf 20 (some (.iload_n 2)))) (re_br 22 (re_lf 21 (some (.aload_n 0))) (re_br 25 (re_lf 22 (some (.getfield 21))) (re_lf 25 (some (.if_icmp .ge 37)))))) (re_br 33 (re_br 29 (re_lf 28 (some (.aload_n 0))) (re_br 32 (re_lf 29 (some (.getfield 9))) (re_lf 32 (some (.iload_n 2))))) (re_br 34 (re_lf 33 (some (.aload_n 0))) (re_br 37 (re_lf 34 (some (.getfield 9))) (re_lf 37 (some (.iload_n 2)))))))) (re_br 53 (re_br 43 (re_br 40 (re_br 39 (re_lf 38 (some (.iconst 1))) (re_lf 39 (some (.iadd)))) (re_br 41 (re_lf 40 (some (.iaload))) (re_br 42 (re_lf 41 (some (.iastore))) (re_lf 42 (some (.aload_n 0)))))) (re_br 48 (re_br 46 (re_lf 43 (some (.getfield 17))) (re_br 47 (re_lf 46 (some (.iload_n 2))) (re_lf 47 (some (.aload_n 0))))) (re_br 51 (re_lf 48 (some (.getfield 17))) (re_br 52 (re_lf 51 (some (.iload_n 2))) (re_lf 52 (some (.iconst 1))))))) (re_br 63 (re_br 56 (re_br 54 (re_lf 53 (some (.iadd))) (re_br 55 (re_lf 54 (some (.aaload))) (re_lf 55 (some (.aastore))))) (re_br 59 (re_lf 56 (some (.iinc 2 1))) (re_br 62 (re_lf 59 (some (.goto (-39)))) (re_lf 62 (some (.aload_n 0)))))) (re_br 70 (re_br 66 (re_lf 63 (some (.getfield 17))) (re_br 67 (re_lf 66 (some (.aload_n 0))) (re_lf 67 (some (.getfield 21))))) (re_br 71 (re_lf 70 (some (.aconst_null))) (re_br 72 (re_lf 71 (some (.aastore))) (re_lf 72 (some (.return_)))))))))
def rI138 : Nat → Option Instr := (re_br 12 (re_br 6 (re_br 2 (re_br 1 (re_lf 0 (some (.aload_n 0))) (re_lf 1 (some (.iconst 0)))) (re_br 5 (re_lf 2 (some (.putfield 21))) (re_lf 5 (some (.iconst 0))))) (re_br 8 (re_br 7 (re_lf 6 (some (.istore_n 1))) (re_lf 7 (some (.iload_n 1)))) (re_br 9 (re_lf 8 (some (.iconst 4))) (re_lf 9 (some (.if_icmp .ge 16)))))) (re_br 18 (re_br 16 (re_br 13 (re_lf 12 (some (.aload_n 0))) (re_lf 13 (some (.getfield 17)))) (re_br 17 (re_lf 16 (some (.iload_n 1))) (re_lf 17 (some (.aconst_null))))) (re_br 22 (re_br 19 (re_lf 18 (some (.aastore))) (re_lf 19 (some (.iinc 1 1)))) (re_br 25 (re_lf 22 (some (.goto (-15)))) (re_lf 25 (some (.return_)))))))
def rI139 : Nat → Option Instr := (re_br 22 (re_br 9 (re_br 5 (re_br 1 (re_lf 0 (some (.aload_n 0))) (re_br 4 (re_lf 1 (some (.invokevirtual 36))) (re_lf 4 (some (.istore_n 1))))) (re_br 7 (re_br 6 (re_lf 5 (some (.iconst 0))) (re_lf 6 (some (.istore_n 2)))) (re_br 8 (re_lf 7 (some (.iload_n 2))) (re_lf 8 (some (.aload_n 0)))))) (re_br 16 (re_br 12 (re_lf 9 (some (.getfield 21))) (re_br 15 (re_lf 12 (some (.if_icmp .ge 34))) (re_lf 15 (some (.iload_n 1))))) (re_br 20 (re_br 17 (re_lf 16 (some (.aload_n 0))) (re_lf 17 (some (.getfield 17)))) (re_br 21 (re_lf 20 (some (.iload_n 2))) (re_lf 21 (some (.aaload))))))) (re_br 35 (re_br 29 (re_br 25 (re_lf 22 (some (.ifnonnull 7))) (re_br 26 (re_lf 25 (some (.iconst 0))) (re_lf 26 (some (.goto 12))))) (re_br 33 (re_br 30 (re_lf 29 (some (.aload_n 0))) (re_lf 30 (some (.getfield 17)))) (re_br 34 (re_lf 33 (some (.iload_n 2))) (re_lf 34 (some (.aaload)))))) (re_br 40 (re_br 38 (re_lf 35 (some (.getfield 40))) (re_br 39 (re_lf 38 (some (.ior))) (re_lf 39 (some (.istore_n 1))))) (re_br 46 (re_br 43 (re_lf 40 (some (.iinc 2 1))) (re_lf 43 (some (.goto (-36))))) (re_br 47 (re_lf 46 (some (.iload_n 1))) (re_lf 47 (some (.ireturn))))))))
def rI140 : Nat → Option Instr := (re_br 38 (re_br 20 (re_br 7 (re_br 2 (re_br 1 (re_lf 0 (some (.iconst 0))) (re_lf 1 (some (.istore_n 3)))) (re_br 3 (re_lf 2 (some (.iconst 0))) (re_br 5 (re_lf 3 (some (.istore 4))) (re_lf 5 (some (.iload 4)))))) (re_br 14 (re_br 8 (re_lf 7 (some (.aload_n 0))) (re_br 11 (re_lf 8 (some (.getfield 21))) (re_lf 11 (some (.if_icmp .ge 64))))) (re_br 15 (re_lf 14 (some (.aload_n 0))) (re_br 18 (re_lf 15 (some (.getfield 9))) (re_lf 18 (some (.iload 4))))))) (re_br 29 (re_br 22 (re_br 21 (re_lf 20 (some (.iaload))) (re_lf 21 (some (.iload_n 1)))) (re_br 25 (re_lf 22 (some (.if_icmp .ne 14))) (re_br 26 (re_lf 25 (some (.aload_n 0))) (re_lf 26 (some (.getfield 9)))))) (re_br 33 (re_br 31 (re_lf 29 (some (.iload 4))) (re_br 32 (re_lf 31 (some (.iload_n 2))) (re_lf 32 (some (.iastore))))) (re_br 36 (re_lf 33 (some (.iinc 3 1))) (re_br 37 (re_lf 36 (some (.iload_n 3))) (re_lf 37 (some (.aload_n 0)))))))) (re_br 57 (re_br 48 (re_br 43 (re_br 41 (re_lf 38 (some (.getfield 17))) (re_lf 41 (some (.iload 4)))) (re_br 44 (re_lf 43 (some (.aaload))) (re_br 45 (re_lf 44 (some (.iload_n 1))) (re_lf 45 (some (.invokestatic 50)))))) (re_br 51 (re_br 49 (re_lf 48 (some (.iadd))) (re_br 50 (re_lf 49 (some (.istore_n 3))) (re_lf 50 (some (.aload_n 0))))) (re_br 54 (re_lf 51 (some (.getfield 17))) (re_br 56 (re_lf 54 (some (.iload 4))) (re_lf 56 (some (.aload_n 0))))))) (re_br 65 (re_br 62 (re_br 60 (re_lf 57 (some (.getfield 17))) (re_lf 60 (some (.iload 4)))) (re_br 63 (re_lf 62 (some (.aaload))) (re_br 64 (re_lf 63 (some (.iload_n 1))) (re_lf 64 (some (.iload_n 2)))))) (re_br 72 (re_br 68 (re_lf 65 (some (.invokestatic 54))) (re_br 69 (re_lf 68 (some (.aastore))) (re_lf 69 (some (.iinc 4 1))))) (re_br 75 (re_lf 72 (some (.goto (-67)))) (re_br 76 (re_lf 75 (some (.iload_n 3))) (re_lf 76 (some (.ireturn)))))))))
def rI192 : Nat → Option Instr := (re_br 29 (re_br 13 (re_br 5 (re_br 1 (re_lf 0 (some (.aload_n 0))) (re_br 4 (re_lf 1 (some (.invokespecial 3))) (re_lf 4 (some (.aload_n 0))))) (re_br 9 (re_br 7 (re_lf 5 (some (.bipush 16))) (re_lf 7 (some (.newarray .int)))) (re_br 12 (re_lf 9 (some (.putfield 9))) (re_lf 12 (some (.aload_n 0)))))) (re_br 21 (re_br 17 (re_br 15 (re_lf 13 (some (.bipush 16))) (re_lf 15 (some (.newarray .int)))) (re_br 20 (re_lf 17 (some (.putfield 15))) (re_lf 20 (some (.aload_n 0))))) (re_br 25 (re_br 23 (re_lf 21 (some (.bipush 12))) (re_lf 23 (some (.newarray .int)))) (re_br 28 (re_lf 25 (some (.putfield 18))) (re_lf 28 (some (.aload_n 0))))))) (re_br 44 (re_br 36 (re_br 31 (re_lf 29 (some (.bipush 12))) (re_br 33 (re_lf 31 (some (.newarray .int))) (re_lf 33 (some (.putfield 21))))) (re_br 39 (re_br 37 (re_lf 36 (some (.aload_n 0))) (re_lf 37 (some (.bipush 12)))) (re_br 41 (re_lf 39 (some (.newarray .int))) (re_lf 41 (some (.putfield 24)))))) (re_br 52 (re_br 47 (re_br 45 (re_lf 44 (some (.aload_n 0))) (re_lf 45 (some (.bipush 12)))) (re_br 49 (re_lf 47 (some (.newarray .int))) (re_lf 49 (some (.putfield 27))))) (re_br 54 (re_br 53 (re_lf 52 (some (.aload_n 0))) (re_lf 53 (some (.aload_n 1)))) (re_br 57 (re_lf 54 (some (.putfield 30))) (re_lf 57 (some (.return_))))))))
def rI193 : Nat → Option Instr := (re_br 17 (re_br 9 (re_br 4 (re_br 1 (re_lf 0 (some (.aload_n 0))) (re_lf 1 (some (.invokevirtual 34)))) (re_br 5 (re_lf 4 (some (.aload_n 0))) (re_br 8 (re_lf 5 (some (.invokevirtual 37))) (re_lf 8 (some (.aload_n 0)))))) (re_br 13 (re_br 12 (re_lf 9 (some (.invokevirtual 40))) (re_lf 12 (some (.iconst 0)))) (re_br 14 (re_lf 13 (some (.istore_n 1))) (re_br 15 (re_lf 14 (some (.iload_n 1))) (re_lf 15 (some (.bipush 12))))))) (re_br 26 (re_br 21 (re_br 20 (re_lf 17 (some (.if_icmp .ge 20))) (re_lf 20 (some (.aload_n 0)))) (re_br 24 (re_lf 21 (some (.getfield 27))) (re_br 25 (re_lf 24 (some (.iload_n 1))) (re_lf 25 (some (.aload_n 0)))))) (re_br 31 (re_br 27 (re_lf 26 (some (.iload_n 1))) (re_br 30 (re_lf 27 (some (.invokevirtual 43))) (re_lf 30 (some (.iastore))))) (re_br 34 (re_lf 31 (some (.iinc 1 1))) (re_br 37 (re_lf 34 (some (.goto (-20)))) (re_lf 37 (some (.return_))))))))
def rI194 : Nat → Option Instr := (re_br 53 (re_br 25 (re_br 13 (re_br 5 (re_br 2 (re_br 1 (re_lf 0 (some (.iconst 0))) (re_lf 1 (some (.istore_n 1)))) (re_br 3 (re_lf 2 (some (.iload_n 1))) (re_lf 3 (some (.bipush 16))))) (re_br 9 (re_br 8 (re_lf 5 (some (.if_icmp .ge 23))) (re_lf 8 (some (.aload_n 0)))) (re_br 12 (re_lf 9 (some (.getfield 9))) (re_lf 12 (some (.iload_n 1)))))) (re_br 19 (re_br 15 (re_br 14 (re_lf 13 (some (.iconst 0))) (re_lf 14 (some (.iastore)))) (re_br 16 (re_lf 15 (some (.aload_n 0))) (re_lf 16 (some (.getfield 15))))) (re_br 21 (re_br 20 (re_lf 19 (some (.iload_n 1))) (re_lf 20 (some (.iconst (-1))))) (re_br 22 (re_lf 21 (some (.iastore))) (re_lf 22 (some (.iinc 1 1))))))) (re_br 40 (re_br 31 (re_br 29 (re_br 28 (re_lf 25 (some (.goto (-23)))) (re_lf 28 (some (.iconst 0)))) (re_br 30 (re_lf 29 (some (.istore_n 1))) (re_lf 30 (some (.iload_n 1))))) (re_br 36 (re_br 33 (re_lf 31 (some (.bipush 12))) (re_lf 33 (some (.if_icmp .ge 78)))) (re_br 37 (re_lf 36 (some (.aload_n 0))) (re_lf 37 (some (.getfield 30)))))) (re_br 46 (re_br 44 (re_br 43 (re_lf 40 (some (.getfield 47))) (re_lf 43 (some (.iload_n 1)))) (re_br 45 (re_lf 44 (some (.aaload))) (re_lf 45 (some (.astore_n 2))))) (re_br 48 (re_br 47 (re_lf 46 (some (.iconst 0))) (re_lf 47 (some (.istore_n 3)))) (re_br 49 (re_lf 48 (some (.iload_n 3))) (re_br 50 (re_lf 49 (some (.aload_n 2))) (re_lf 50 (some (.getfield 53))))))))) (re_br 84 (re_br 68 (re_br 61 (re_br 57 (re_br 56 (re_lf 53 (some (.if_icmp .ge 52))) (re_lf 56 (some (.aload_n 2)))) (re_br 60 (re_lf 57 (some (.getfield 59))) (re_lf 60 (some (.iload_n 3))))) (re_br 64 (re_br 62 (re_lf 61 (some (.iaload))) (re_lf 62 (some (.istore 4)))) (re_br 65 (re_lf 64 (some (.aload_n 0))) (re_lf 65 (some (.getfield 15)))))) (re_br 76 (re_br 71 (re_br 70 (re_lf 68 (some (.iload 4))) (re_lf 70 (some (.aload_n 0)))) (re_br 74 (re_lf 71 (some (.getfield 9))) (re_lf 74 (some (.iload 4))))) (re_br 80 (re_br 77 (re_lf 76 (some (.iaload))) (re_lf 77 (some (.ifCond .ne 7)))) (re_br 81 (re_lf 80 (some (.iload_n 1))) (re_lf 81 (some (.goto 4))))))) (re_br 95 (re_br 90 (re_br 86 (re_br 85 (re_lf 84 (some (.iconst (-1)))) (re_lf 85 (some (.iastore)))) (re_br 87 (re_lf 86 (some (.aload_n 0))) (re_lf 87 (some (.getfield 9))))) (re_br 93 (re_br 92 (re_lf 90 (some (.iload 4))) (re_lf 92 (some (.dup2)))) (re_br 94 (re_lf 93 (some (.iaload))) (re_lf 94 (some (.iconst 1)))))) (re_br 99 (re_br 97 (re_br 96 (re_lf 95 (some (.iload_n 1))) (re_lf 96 (some (.ishl)))) (re_br 98 (re_lf 97 (some (.ior))) (re_lf 98 (some (.iastore))))) (re_br 105 (re_br 102 (re_lf 99 (some (.iinc 3 1))) (re_lf 102 (some (.goto (-54))))) (re_br 108 (re_lf 105 (some (.iinc 1 1))) (re_br 111 (re_lf 108 (some (.goto (-78)))) (re_lf 111 (some (.return_))))))))))
def rI195 : Nat → Option Instr := (re_br 41 (re_br 21 (re_br 9 (re_br 3 (re_br 1 (re_lf 0 (some (.iconst 0))) (re_br 2 (re_lf 1 (some (.istore_n 1))) (re_lf 2 (some (.iload_n 1))))) (re_br 5 (re_lf 3 (some (.bipush 12))) (re_br 8 (re_lf 5 (some (.if_icmp .ge 77))) (re_lf 8 (some (.aload_n 0)))))) (re_br 14 (re_br 12 (re_lf 9 (some (.getfield 18))) (re_br 13 (re_lf 12 (some (.iload_n 1))) (re_lf 13 (some (.aload_n 0))))) (re_br 17 (re_lf 14 (some (.getfield 30))) (re_br 20 (re_lf 17 (some (.getfield 47))) (re_lf 20 (some (.iload_n 1))))))) (re_br 31 (re_br 26 (re_br 22 (re_lf 21 (some (.aaload))) (re_br 25 (re_lf 22 (some (.invokevirtual 62))) (re_lf 25 (some (.iastore))))) (re_br 27 (re_lf 26 (some (.aload_n 0))) (re_br 30 (re_lf 27 (some (.getfield 21))) (re_lf 30 (some (.iload_n 1)))))) (re_br 34 (re_br 32 (re_lf 31 (some (.iconst 0))) (re_br 33 (re_lf 32 (some (.iastore))) (re_lf 33 (some (.iconst 0))))) (re_br 36 (re_br 35 (re_lf 34 (some (.istore_n 2))) (re_lf 35 (some (.iload_n 2)))) (re_br 38 (re_lf 36 (some (.bipush 16))) (re_lf 38 (some (.if_icmp .ge 38)))))))) (re_br 60 (re_br 49 (re_br 46 (re_br 42 (re_lf 41 (some (.aload_n 0))) (re_br 45 (re_lf 42 (some (.getfield 18))) (re_lf 45 (some (.iload_n 1))))) (re_br 47 (re_lf 46 (some (.iaload))) (re_br 48 (re_lf 47 (some (.iload_n 2))) (re_lf 48 (some (.ishr)))))) (re_br 52 (re_br 50 (re_lf 49 (some (.iconst 1))) (re_br 51 (re_lf 50 (some (.iand))) (re_lf 51 (some (.iconst 1))))) (re_br 56 (re_br 55 (re_lf 52 (some (.if_icmp .ne 18))) (re_lf 55 (some (.aload_n 0)))) (re_br 59 (re_lf 56 (some (.getfield 21))) (re_lf 59 (some (.iload_n 1))))))) (re_br 68 (re_br 63 (re_br 61 (re_lf 60 (some (.dup2))) (re_br 62 (re_lf 61 (some (.iaload))) (re_lf 62 (some (.aload_n 0))))) (re_br 66 (re_lf 63 (some (.getfield 9))) (re_br 67 (re_lf 66 (some (.iload_n 2))) (re_lf 67 (some (.iaload)))))) (re_br 73 (re_br 69 (re_lf 68 (some (.ior))) (re_br 70 (re_lf 69 (some (.iastore))) (re_lf 70 (some (.iinc 2 1))))) (re_br 79 (re_br 76 (re_lf 73 (some (.goto (-38)))) (re_lf 76 (some (.iinc 1 1)))) (re_br 82 (re_lf 79 (some (.goto (-77)))) (re_lf 82 (some (.return_)))))))))
def rI196 : Nat → Option Instr := (re_br 42 (re_br 19 (re_br 9 (re_br 3 (re_br 1 (re_lf 0 (some (.iconst 0))) (re_br 2 (re_lf 1 (some (.istore_n 1))) (re_lf 2 (some (.iload_n 1))))) (re_br 5 (re_lf 3 (some (.bipush 12))) (re_br 8 (re_lf 5 (some (.if_icmp .ge 21))) (re_lf 8 (some (.aload_n 0)))))) (re_br 14 (re_br 12 (re_lf 9 (some (.getfield 24))) (re_br 13 (re_lf 12 (some (.iload_n 1))) (re_lf 13 (some (.aload_n 0))))) (re_br 17 (re_lf 14 (some (.getfield 21))) (re_br 18 (re_lf 17 (some (.iload_n 1))) (re_lf 18 (some (.iaload))))))) (re_br 29 (re_br 26 (re_br 20 (re_lf 19 (some (.iastore))) (re_br 23 (re_lf 20 (some (.iinc 1 1))) (re_lf 23 (some (.goto (-21)))))) (re_br 27 (re_lf 26 (some (.iconst 0))) (re_br 28 (re_lf 27 (some (.istore_n 1))) (re_lf 28 (some (.iload_n 1)))))) (re_br 35 (re_br 31 (re_lf 29 (some (.bipush 12))) (re_br 34 (re_lf 31 (some (.if_icmp .ge 52))) (re_lf 34 (some (.iconst 0))))) (re_br 37 (re_br 36 (re_lf 35 (some (.istore_n 2))) (re_lf 36 (some (.iload_n 2)))) (re_br 39 (re_lf 37 (some (.bipush 12))) (re_lf 39 (some (.if_icmp .ge 38)))))))) (re_br 61 (re_br 50 (re_br 47 (re_br 43 (re_lf 42 (some (.aload_n 0))) (re_br 46 (re_lf 43 (some (.getfield 24))) (re_lf 46 (some (.iload_n 2))))) (re_br 48 (re_lf 47 (some (.iaload))) (re_br 49 (re_lf 48 (some (.iload_n 1))) (re_lf 49 (some (.ishr)))))) (re_br 53 (re_br 51 (re_lf 50 (some (.iconst 1))) (re_br 52 (re_lf 51 (some (.iand))) (re_lf 52 (some (.iconst 1))))) (re_br 57 (re_br 56 (re_lf 53 (some (.if_icmp .ne 18))) (re_lf 56 (some (.aload_n 0)))) (re_br 60 (re_lf 57 (some (.getfield 24))) (re_lf 60 (some (.iload_n 2))))))) (re_br 69 (re_br 64 (re_br 62 (re_lf 61 (some (.dup2))) (re_br 63 (re_lf 62 (some (.iaload))) (re_lf 63 (some (.aload_n 0))))) (re_br 67 (re_lf 64 (some (.getfield 24))) (re_br 68 (re_lf 67 (some (.iload_n 1))) (re_lf 68 (some (.iaload)))))) (re_br 74 (re_br 70 (re_lf 69 (some (.ior))) (re_br 71 (re_lf 70 (some (.iastore))) (re_lf 71 (some (.iinc 2 1))))) (re_br 80 (re_br 77 (re_lf 74 (some (.goto (-38)))) (re_lf 77 (some (.iinc 1 1)))) (re_br 83 (re_lf 80 (some (.goto (-52)))) (re_lf 83 (some (.return_)))))))))
def rI197 : Nat → Option Instr := (re_br 57 (re_br 29 (re_br 14 (re_br 8 (re_br 4 (re_br 1 (re_lf 0 (some (.aload_n 0))) (re_lf 1 (some (.getfield 30)))) (re_br 7 (re_lf 4 (some (.getfield 47))) (re_lf 7 (some (.iload_n 1))))) (re_br 12 (re_br 9 (re_lf 8 (some (.aaload))) (re_lf 9 (some (.invokevirtual 66)))) (re_br 13 (re_lf 12 (some (.istore_n 2))) (re_lf 13 (some (.iconst 0)))))) (re_br 20 (re_br 16 (re_br 15 (re_lf 14 (some (.istore_n 3))) (re_lf 15 (some (.iconst 0)))) (re_br 18 (re_lf 16 (some (.istore 4))) (re_lf 18 (some (.iload 4))))) (re_br 25 (re_br 22 (re_lf 20 (some (.bipush 16))) (re_lf 22 (some (.if_icmp .ge 65)))) (re_br 26 (re_lf 25 (some (.iload_n 2))) (re_br 28 (re_lf 26 (some (.iload 4))) (re_lf 28 (some (.ishr)))))))) (re_br 43 (re_br 35 (re_br 31 (re_br 30 (re_lf 29 (some (.iconst 1))) (re_lf 30 (some (.iand)))) (re_br 32 (re_lf 31 (some (.iconst 1))) (re_lf 32 (some (.if_icmp .ne 16))))) (re_br 39 (re_br 36 (re_lf 35 (some (.aload_n 0))) (re_lf 36 (some (.getfield 15)))) (re_br 41 (re_lf 39 (some (.iload 4))) (re_br 42 (re_lf 41 (some (.iaload))) (re_lf 42 (some (.iload_n 1))))))) (re_br 49 (re_br 47 (re_br 46 (re_lf 43 (some (.if_icmp .eq 5))) (re_lf 46 (some (.iconst 1)))) (re_br 48 (re_lf 47 (some (.ireturn))) (re_lf 48 (some (.iload_n 3))))) (re_br 53 (re_br 50 (re_lf 49 (some (.aload_n 0))) (re_lf 50 (some (.getfield 18)))) (re_br 54 (re_lf 53 (some (.iload_n 1))) (re_br 55 (re_lf 54 (some (.iaload))) (re_lf 55 (some (.iload 4))))))))) (re_br 87 (re_br 70 (re_br 61 (re_br 59 (re_br 58 (re_lf 57 (some (.ishr))) (re_lf 58 (some (.iconst 1)))) (re_br 60 (re_lf 59 (some (.iand))) (re_lf 60 (some (.iconst 1))))) (re_br 65 (re_br 64 (re_lf 61 (some (.if_icmp .ne 17))) (re_lf 64 (some (.aload_n 0)))) (re_br 68 (re_lf 65 (some (.getfield 9))) (re_lf 68 (some (.iload 4)))))) (re_br 78 (re_br 74 (re_br 71 (re_lf 70 (some (.iaload))) (re_lf 71 (some (.ifCond .ne 7)))) (re_br 75 (re_lf 74 (some (.iconst 1))) (re_lf 75 (some (.goto 4))))) (re_br 80 (re_br 79 (re_lf 78 (some (.iconst 0))) (re_lf 79 (some (.ior)))) (re_br 81 (re_lf 80 (some (.istore_n 3))) (re_br 84 (re_lf 81 (some (.iinc 4 1))) (re_lf 84 (some (.goto (-66))))))))) (re_br 98 (re_br 93 (re_br 91 (re_br 88 (re_lf 87 (some (.aload_n 0))) (re_lf 88 (some (.getfield 24)))) (re_br 92 (re_lf 91 (some (.iload_n 1))) (re_lf 92 (some (.iaload))))) (re_br 95 (re_br 94 (re_lf 93 (some (.iload_n 1))) (re_lf 94 (some (.ishr)))) (re_br 96 (re_lf 95 (some (.iconst 1))) (re_br 97 (re_lf 96 (some (.iand))) (re_lf 97 (some (.iconst 1))))))) (re_br 104 (re_br 102 (re_br 101 (re_lf 98 (some (.if_icmp .ne 5))) (re_lf 101 (some (.iconst 2)))) (re_br 103 (re_lf 102 (some (.ireturn))) (re_lf 103 (some (.iload_n 3))))) (re_br 108 (re_br 107 (re_lf 104 (some (.ifCond .eq 7))) (re_lf 107 (some (.iconst 3)))) (re_br 111 (re_lf 108 (some (.goto 4))) (re_br 112 (re_lf 111 (some (.iconst 0))) (re_lf 112 (some (.ireturn))))))))))
def rI256 : Nat → Option Instr := (re_br 5 (re_br 1 (re_lf 0 (some (.aload_n 0))) (re_br 4 (re_lf 1 (some (.invokespecial 3))) (re_lf 4 (some (.aload_n 0))))) (re_br 8 (re_br 6 (re_lf 5 (some (.iconst 4))) (re_lf 6 (some (.newarray .long)))) (re_br 11 (re_lf 8 (some (.putfield 9))) (re_lf 11 (some (.return_))))))
def rI320 : Nat → Option Instr := (re_br 31 (re_br 13 (re_br 6 (re_br 4 (re_br 1 (re_lf 0 (some (.aload_n 0))) (re_lf 1 (some (.invokespecial 3)))) (re_br 5 (re_lf 4 (some (.aload_n 0))) (re_lf 5 (some (.iconst (-1)))))) (re_br 10 (re_br 9 (re_lf 6 (some (.putfield 9))) (re_lf 9 (some (.aload_n 0)))) (re_br 11 (re_lf 10 (some (.iconst 4))) (re_lf 11 (some (.newarray .int)))))) (re_br 20 (re_br 17 (re_br 16 (re_lf 13 (some (.putfield 15))) (re_lf 16 (some (.aload_n 0)))) (re_br 18 (re_lf 17 (some (.iconst 4))) (re_lf 18 (some (.newarray .long))))) (re_br 24 (re_br 23 (re_lf 20 (some (.putfield 19))) (re_lf 23 (some (.aload_n 0)))) (re_br 25 (re_lf 24 (some (.iconst 4))) (re_br 28 (re_lf 25 (some (.anewarray 23))) (re_lf 28 (some (.putfield 25)))))))) (re_br 49 (re_br 39 (re_br 35 (re_br 32 (re_lf 31 (some (.aload_n 0))) (re_lf 32 (some (.new 29)))) (re_br 36 (re_lf 35 (some (.dup))) (re_lf 36 (some (.invokespecial 31))))) (re_br 43 (re_br 42 (re_lf 39 (some (.putfield 32))) (re_lf 42 (some (.aload_n 0)))) (re_br 44 (re_lf 43 (some (.iconst 4))) (re_br 46 (re_lf 44 (some (.newarray .long))) (re_lf 46 (some (.putfield 36))))))) (re_br 57 (re_br 52 (re_br 50 (re_lf 49 (some (.aload_n 0))) (re_lf 50 (some (.bipush 16)))) (re_br 54 (re_lf 52 (some (.newarray .int))) (re_lf 54 (some (.putfield 39))))) (re_br 60 (re_br 58 (re_lf 57 (some (.aload_n 0))) (re_lf 58 (some (.bipush 16)))) (re_br 62 (re_lf 60 (some (.newarray .long))) (re_br 65 (re_lf 62 (some (.putfield 42))) (re_lf 65 (some (.return_)))))))))
def rI321 : Nat → Option Instr := (re_br 48 (re_br 26 (re_br 12 (re_br 5 (re_br 1 (re_lf 0 (some (.aload_n 0))) (re_br 4 (re_lf 1 (some (.getfield 32))) (re_lf 4 (some (.aload_n 1))))) (re_br 8 (re_lf 5 (some (.invokevirtual 68))) (re_br 11 (re_lf 8 (some (.ifCond .eq 24))) (re_lf 11 (some (.aload_n 0)))))) (re_br 21 (re_br 15 (re_lf 12 (some (.getfield 32))) (re_br 18 (re_lf 15 (some (.invokevirtual 72))) (re_lf 18 (some (.ifCond .eq 16))))) (re_br 22 (re_lf 21 (some (.aload_n 0))) (re_br 25 (re_lf 22 (some (.getfield 66))) (re_lf 25 (some (.aload_n 2))))))) (re_br 38 (re_br 33 (re_br 29 (re_lf 26 (some (.getfield 61))) (re_br 32 (re_lf 29 (some (.if_icmp .eq 5))) (re_lf 32 (some (.iconst 0))))) (re_br 34 (re_lf 33 (some (.ireturn))) (re_br 35 (re_lf 34 (some (.aload_n 0))) (re_lf 35 (some (.getfield 32)))))) (re_br 43 (re_br 41 (re_lf 38 (some (.invokevirtual 76))) (re_br 42 (re_lf 41 (some (.istore_n 3))) (re_lf 42 (some (.iconst 0))))) (re_br 45 (re_lf 43 (some (.istore 4))) (re_br 47 (re_lf 45 (some (.iload 4))) (re_lf 47 (some (.iconst 4)))))))) (re_br 68 (re_br 57 (re_br 54 (re_br 51 (re_lf 48 (some (.if_icmp .ge 39))) (re_br 52 (re_lf 51 (some (.iload_n 3))) (re_lf 52 (some (.iload 4))))) (re_br 55 (re_lf 54 (some (.ishr))) (re_br 56 (re_lf 55 (some (.iconst 1))) (re_lf 56 (some (.iand)))))) (re_br 62 (re_br 58 (re_lf 57 (some (.iconst 1))) (re_br 61 (re_lf 58 (some (.if_icmp .ne 23))) (re_lf 61 (some (.aload_n 0))))) (re_br 65 (re_lf 62 (some (.getfield 36))) (re_br 67 (re_lf 65 (some (.iload 4))) (re_lf 67 (some (.laload))))))) (re_br 79 (re_br 74 (re_br 69 (re_lf 68 (some (.aload_n 2))) (re_br 72 (re_lf 69 (some (.getfield 67))) (re_lf 72 (some (.iload 4))))) (re_br 75 (re_lf 74 (some (.laload))) (re_br 76 (re_lf 75 (some (.lcmp))) (re_lf 76 (some (.ifCond .eq 5)))))) (re_br 84 (re_br 80 (re_lf 79 (some (.iconst 0))) (re_br 81 (re_lf 80 (some (.ireturn))) (re_lf 81 (some (.iinc 4 1))))) (re_br 87 (re_lf 84 (some (.goto (-39)))) (re_br 88 (re_lf 87 (some (.iconst 1))) (re_lf 88 (some (.ireturn)))))))))
def rI322 : Nat → Option Instr := (re_br 12 (re_br 6 (re_br 2 (re_br 1 (re_lf 0 (some (.aload_n 0))) (re_lf 1 (some (.iload_n 1)))) (re_br 5 (re_lf 2 (some (.invokevirtual 80))) (re_lf 5 (some (.istore_n 2))))) (re_br 10 (re_br 7 (re_lf 6 (some (.iload_n 2))) (re_lf 7 (some (.ifCond .ge 5)))) (re_br 11 (re_lf 10 (some (.iconst 0))) (re_lf 11 (some (.ireturn)))))) (re_br 18 (re_br 16 (re_br 13 (re_lf 12 (some (.aload_n 0))) (re_lf 13 (some (.getfield 25)))) (re_br 17 (re_lf 16 (some (.iload_n 2))) (re_lf 17 (some (.aaload))))) (re_br 22 (re_br 21 (re_lf 18 (some (.ifnonnull 7))) (re_lf 21 (some (.iconst 1)))) (re_br 25 (re_lf 22 (some (.goto 4))) (re_br 26 (re_lf 25 (some (.iconst 2))) (re_lf 26 (some (.ireturn))))))))
def rI323 : Nat → Option Instr := (re_br 16 (re_br 7 (re_br 2 (re_br 1 (re_lf 0 (some (.iconst 0))) (re_lf 1 (some (.istore_n 2)))) (re_br 3 (re_lf 2 (some (.iload_n 2))) (re_br 4 (re_lf 3 (some (.aload_n 0))) (re_lf 4 (some (.getfield 54)))))) (re_br 11 (re_br 10 (re_lf 7 (some (.if_icmp .ge 26))) (re_lf 10 (some (.iload_n 2)))) (re_br 12 (re_lf 11 (some (.iconst 4))) (re_br 15 (re_lf 12 (some (.if_icmp .ge 21))) (re_lf 15 (some (.aload_n 0))))))) (re_br 25 (re_br 20 (re_br 19 (re_lf 16 (some (.getfield 15))) (re_lf 19 (some (.iload_n 2)))) (re_br 21 (re_lf 20 (some (.iaload))) (re_br 22 (re_lf 21 (some (.iload_n 1))) (re_lf 22 (some (.if_icmp .ne 5)))))) (re_br 30 (re_br 26 (re_lf 25 (some (.iload_n 2))) (re_br 27 (re_lf 26 (some (.ireturn))) (re_lf 27 (some (.iinc 2 1))))) (re_br 33 (re_lf 30 (some (.goto (-28)))) (re_br 34 (re_lf 33 (some (.iconst (-1)))) (re_lf 34 (some (.ireturn))))))))
def rI324 : Nat → Option Instr := (re_br 18 (re_br 10 (re_br 5 (re_br 1 (re_lf 0 (some (.aload_n 0))) (re_br 2 (re_lf 1 (some (.iload_n 1))) (re_lf 2 (some (.invokevirtual 80))))) (re_br 6 (re_lf 5 (some (.istore_n 2))) (re_br 7 (re_lf 6 (some (.iload_n 2))) (re_lf 7 (some (.ifCond .ge 5)))))) (re_br 13 (re_br 11 (re_lf 10 (some (.lconst 0))) (re_br 12 (re_lf 11 (some (.lreturn))) (re_lf 12 (some (.aload_n 0))))) (re_br 16 (re_lf 13 (some (.getfield 25))) (re_br 17 (re_lf 16 (some (.iload_n 2))) (re_lf 17 (some (.aaload))))))) (re_br 30 (re_br 25 (re_br 21 (re_lf 18 (some (.ifnonnull 12))) (re_br 22 (re_lf 21 (some (.aload_n 0))) (re_lf 22 (some (.getfield 19))))) (re_br 26 (re_lf 25 (some (.iload_n 2))) (re_br 27 (re_lf 26 (some (.laload))) (re_lf 27 (some (.goto 12)))))) (re_br 35 (re_br 31 (re_lf 30 (some (.aload_n 0))) (re_br 34 (re_lf 31 (some (.getfield 25))) (re_lf 34 (some (.iload_n 2))))) (re_br 36 (re_lf 35 (some (.aaload))) (re_br 39 (re_lf 36 (some (.getfield 84))) (re_lf 39 (some (.lreturn))))))))
def rI325 : Nat → Option Instr := (re_br 15 (re_br 6 (re_br 4 (re_br 1 (re_lf 0 (some (.aload_n 0))) (re_lf 1 (some (.getfield 39)))) (re_br 5 (re_lf 4 (some (.iload_n 1))) (re_lf 5 (some (.iaload))))) (re_br 10 (re_br 7 (re_lf 6 (some (.iload_n 2))) (re_lf 7 (some (.if_icmp .ne 22)))) (re_br 11 (re_lf 10 (some (.iload_n 2))) (re_br 14 (re_lf 11 (some (.ifCond .eq 14))) (re_lf 14 (some (.aload_n 0))))))) (re_br 22 (re_br 19 (re_br 18 (re_lf 15 (some (.getfield 42))) (re_lf 18 (some (.iload_n 1)))) (re_br 20 (re_lf 19 (some (.laload))) (re_br 21 (re_lf 20 (some (.lload_n 3))) (re_lf 21 (some (.lcmp)))))) (re_br 26 (re_br 25 (re_lf 22 (some (.ifCond .ne 7))) (re_lf 25 (some (.iconst 1)))) (re_br 29 (re_lf 26 (some (.goto 4))) (re_br 30 (re_lf 29 (some (.iconst 0))) (re_lf 30 (some (.ireturn))))))))
def rI326 : Nat → Option Instr := (re_br 5 (re_br 1 (re_lf 0 (some (.aload_n 0))) (re_br 2 (re_lf 1 (some (.iload_n 1))) (re_lf 2 (some (.putfield 9))))) (re_br 6 (re_lf 5 (some (.aload_n 0))) (re_br 9 (re_lf 6 (some (.invokevirtual 48))) (re_lf 9 (some (.return_))))))
def rI327 : Nat → Option Instr := (re_br 12 (re_br 6 (re_br 2 (re_br 1 (re_lf 0 (some (.aload_n 0))) (re_lf 1 (some (.iconst 0)))) (re_br 5 (re_lf 2 (some (.putfield 54))) (re_lf 5 (some (.iconst 0))))) (re_br 8 (re_br 7 (re_lf 6 (some (.istore_n 1))) (re_lf 7 (some (.iload_n 1)))) (re_br 9 (re_lf 8 (some (.iconst 4))) (re_lf 9 (some (.if_icmp .ge 16)))))) (re_br 18 (re_br 16 (re_br 13 (re_lf 12 (some (.aload_n 0))) (re_lf 13 (some (.getfield 25)))) (re_br 17 (re_lf 16 (some (.iload_n 1))) (re_lf 17 (some (.aconst_null))))) (re_br 22 (re_br 19 (re_lf 18 (some (.aastore))) (re_lf 19 (some (.iinc 1 1)))) (re_br 25 (re_lf 22 (some (.goto (-15)))) (re_lf 25 (some (.return_)))))))
def rI328 : Nat → Option Instr := (re_br 29 (re_br 14 (re_br 6 (re_br 4 (re_br 1 (re_lf 0 (some (.aload_n 0))) (re_lf 1 (some (.invokevirtual 48)))) (re_br 5 (re_lf 4 (some (.aload_n 0))) (re_lf 5 (some (.iconst 0))))) (re_br 10 (re_br 9 (re_lf 6 (some (.putfield 9))) (re_lf 9 (some (.aload_n 0)))) (re_br 11 (re_lf 10 (some (.dup))) (re_lf 11 (some (.getfield 45)))))) (re_br 20 (re_br 16 (re_br 15 (re_lf 14 (some (.iconst 1))) (re_lf 15 (some (.iadd)))) (re_br 19 (re_lf 16 (some (.putfield 45))) (re_lf 19 (some (.aload_n 0))))) (re_br 24 (re_br 23 (re_lf 20 (some (.getfield 32))) (re_lf 23 (some (.aload_n 1)))) (re_br 27 (re_lf 24 (some (.invokevirtual 57))) (re_br 28 (re_lf 27 (some (.aload_n 0))) (re_lf 28 (some (.aload_n 2)))))))) (re_br 46 (re_br 37 (re_br 35 (re_br 32 (re_lf 29 (some (.getfield 61))) (re_lf 32 (some (.putfield 66)))) (re_br 36 (re_lf 35 (some (.iconst 0))) (re_lf 36 (some (.istore_n 3))))) (re_br 39 (re_br 38 (re_lf 37 (some (.iload_n 3))) (re_lf 38 (some (.iconst 4)))) (re_br 42 (re_lf 39 (some (.if_icmp .ge 21))) (re_br 43 (re_lf 42 (some (.aload_n 0))) (re_lf 43 (some (.getfield 36))))))) (re_br 52 (re_br 48 (re_br 47 (re_lf 46 (some (.iload_n 3))) (re_lf 47 (some (.aload_n 2)))) (re_br 51 (re_lf 48 (some (.getfield 67))) (re_lf 51 (some (.iload_n 3))))) (re_br 54 (re_br 53 (re_lf 52 (some (.laload))) (re_lf 53 (some (.lastore)))) (re_br 57 (re_lf 54 (some (.iinc 3 1))) (re_br 60 (re_lf 57 (some (.goto (-20)))) (re_lf 60 (some (.return_)))))))))
def rI329 : Nat → Option Instr := (re_br 7 (re_br 4 (re_br 1 (re_lf 0 (some (.aload_n 0))) (re_lf 1 (some (.getfield 39)))) (re_br 5 (re_lf 4 (some (.iload_n 1))) (re_br 6 (re_lf 5 (some (.iload_n 2))) (re_lf 6 (some (.iastore)))))) (re_br 12 (re_br 8 (re_lf 7 (some (.aload_n 0))) (re_br 11 (re_lf 8 (some (.getfield 42))) (re_lf 11 (some (.iload_n 1))))) (re_br 13 (re_lf 12 (some (.lload_n 3))) (re_br 14 (re_lf 13 (some (.lastore))) (re_lf 14 (some (.return_)))))))
def rI330 : Nat → Option Instr := (re_br 10 (re_br 5 (re_br 1 (re_lf 0 (some (.aload_n 0))) (re_br 2 (re_lf 1 (some (.iload_n 1))) (re_lf 2 (some (.invokevirtual 80))))) (re_br 6 (re_lf 5 (some (.istore_n 2))) (re_br 7 (re_lf 6 (some (.iload_n 2))) (re_lf 7 (some (.ifCond .ge 7)))))) (re_br 15 (re_br 11 (re_lf 10 (some (.aconst_null))) (re_br 14 (re_lf 11 (some (.goto 9))) (re_lf 14 (some (.aload_n 0))))) (re_br 19 (re_br 18 (re_lf 15 (some (.getfield 25))) (re_lf 18 (some (.iload_n 2)))) (re_br 20 (re_lf 19 (some (.aaload))) (re_lf 20 (some (.areturn)))))))
def rI331 : Nat → Option Instr := (re_br 26 (re_br 13 (re_br 5 (re_br 1 (re_lf 0 (some (.aload_n 0))) (re_br 4 (re_lf 1 (some (.getfield 54))) (re_lf 4 (some (.iconst 4))))) (re_br 9 (re_br 8 (re_lf 5 (some (.if_icmp .ge 44))) (re_lf 8 (some (.aload_n 0)))) (re_br 12 (re_lf 9 (some (.getfield 15))) (re_lf 12 (some (.aload_n 0)))))) (re_br 18 (re_br 16 (re_lf 13 (some (.getfield 54))) (re_br 17 (re_lf 16 (some (.iload_n 1))) (re_lf 17 (some (.iastore))))) (re_br 22 (re_br 19 (re_lf 18 (some (.aload_n 0))) (re_lf 19 (some (.getfield 19)))) (re_br 23 (re_lf 22 (some (.aload_n 0))) (re_lf 23 (some (.getfield 54))))))) (re_br 38 (re_br 29 (re_br 27 (re_lf 26 (some (.lload_n 2))) (re_br 28 (re_lf 27 (some (.lastore))) (re_lf 28 (some (.aload_n 0))))) (re_br 33 (re_br 32 (re_lf 29 (some (.getfield 25))) (re_lf 32 (some (.aload_n 0)))) (re_br 36 (re_lf 33 (some (.getfield 54))) (re_lf 36 (some (.aload 4)))))) (re_br 44 (re_br 40 (re_br 39 (re_lf 38 (some (.aastore))) (re_lf 39 (some (.aload_n 0)))) (re_br 41 (re_lf 40 (some (.dup))) (re_lf 41 (some (.getfield 54))))) (re_br 46 (re_br 45 (re_lf 44 (some (.iconst 1))) (re_lf 45 (some (.iadd)))) (re_br 49 (re_lf 46 (some (.putfield 54))) (re_lf 49 (some (.return_))))))))
def rI332 : Nat → Option Instr := (re_br 10 (re_br 5 (re_br 1 (re_lf 0 (some (.aload_n 0))) (re_br 2 (re_lf 1 (some (.iconst (-1)))) (re_lf 2 (some (.putfield 9))))) (re_br 6 (re_lf 5 (some (.aload_n 0))) (re_br 7 (re_lf 6 (some (.iconst 0))) (re_lf 7 (some (.putfield 45)))))) (re_br 15 (re_br 11 (re_lf 10 (some (.aload_n 0))) (re_br 14 (re_lf 11 (some (.invokevirtual 48))) (re_lf 14 (some (.aload_n 0))))) (re_br 18 (re_lf 15 (some (.getfield 32))) (re_br 21 (re_lf 18 (some (.invokevirtual 51))) (re_lf 21 (some (.return_)))))))
def rI384 : Nat → Option Instr := (re_br 5 (re_br 1 (re_lf 0 (some (.aload_n 0))) (re_br 4 (re_lf 1 (some (.invokespecial 3))) (re_lf 4 (some (.aload_n 0))))) (re_br 6 (re_lf 5 (some (.aload_n 1))) (re_br 9 (re_lf 6 (some (.putfield 9))) (re_lf 9 (some (.return_))))))
def rI385 : Nat → Option Instr := (re_br 58 (re_br 31 (re_br 16 (re_br 8 (re_br 4 (re_br 1 (re_lf 0 (some (.aload_n 0))) (re_lf 1 (some (.getfield 31)))) (re_br 5 (re_lf 4 (some (.aload_n 0))) (re_lf 5 (some (.getfield 48))))) (re_br 12 (re_br 11 (re_lf 8 (some (.sipush 500))) (re_lf 11 (some (.iadd)))) (re_br 15 (re_lf 12 (some (.if_icmp .ge 4))) (re_lf 15 (some (.return_)))))) (re_br 20 (re_br 18 (re_br 17 (re_lf 16 (some (.iconst 0))) (re_lf 17 (some (.istore_n 1)))) (re_br 19 (re_lf 18 (some (.iload_n 1))) (re_lf 19 (some (.aload_n 0))))) (re_br 24 (re_br 23 (re_lf 20 (some (.getfield 9))) (re_lf 23 (some (.arraylength)))) (re_br 27 (re_lf 24 (some (.if_icmp .ge 43))) (re_br 28 (re_lf 27 (some (.aload_n 0))) (re_lf 28 (some (.getfield 9)))))))) (re_br 41 (re_br 35 (re_br 33 (re_br 32 (re_lf 31 (some (.iload_n 1))) (re_lf 32 (some (.aaload)))) (re_br 34 (re_lf 33 (some (.astore_n 2))) (re_lf 34 (some (.iconst 0))))) (re_br 37 (re_br 36 (re_lf 35 (some (.istore_n 3))) (re_lf 36 (some (.aload_n 2)))) (re_br 40 (re_lf 37 (some (.ifnull 24))) (re_lf 40 (some (.iload_n 3)))))) (re_br 47 (re_br 45 (re_br 42 (re_lf 41 (some (.iconst 4))) (re_lf 42 (some (.if_icmp .ge 19)))) (re_br 46 (re_lf 45 (some (.aload_n 0))) (re_lf 46 (some (.aload_n 2))))) (re_br 51 (re_br 50 (re_lf 47 (some (.getfield 51))) (re_lf 50 (some (.iload_n 3)))) (re_br 52 (re_lf 51 (some (.aaload))) (re_br 55 (re_lf 52 (some (.invokevirtual 57))) (re_lf 55 (some (.iinc 3 1))))))))) (re_br 92 (re_br 75 (re_br 68 (re_br 64 (re_br 61 (re_lf 58 (some (.goto (-22)))) (re_lf 61 (some (.iinc 1 1)))) (re_br 67 (re_lf 64 (some (.goto (-46)))) (re_lf 67 (some (.iconst 0))))) (re_br 70 (re_br 69 (re_lf 68 (some (.istore_n 1))) (re_lf 69 (some (.iload_n 1)))) (re_br 72 (re_lf 70 (some (.ldc 61))) (re_lf 72 (some (.if_icmp .ge 50)))))) (re_br 83 (re_br 79 (re_br 76 (re_lf 75 (some (.aload_n 0))) (re_lf 76 (some (.getfield 62)))) (re_br 82 (re_lf 79 (some (.ifnull 43))) (re_lf 82 (some (.aload_n 0))))) (re_br 87 (re_br 86 (re_lf 83 (some (.getfield 62))) (re_lf 86 (some (.astore_n 2)))) (re_br 88 (re_lf 87 (some (.aload_n 0))) (re_br 89 (re_lf 88 (some (.aload_n 2))) (re_lf 89 (some (.getfield 28)))))))) (re_br 108 (re_br 100 (re_br 96 (re_br 95 (re_lf 92 (some (.putfield 62))) (re_lf 95 (some (.aload_n 2)))) (re_br 97 (re_lf 96 (some (.aconst_null))) (re_lf 97 (some (.putfield 28))))) (re_br 102 (re_br 101 (re_lf 100 (some (.aload_n 0))) (re_lf 101 (some (.aload_n 2)))) (re_br 105 (re_lf 102 (some (.getfield 42))) (re_lf 105 (some (.invokevirtual 57)))))) (re_br 116 (re_br 110 (re_br 109 (re_lf 108 (some (.aload_n 0))) (re_lf 109 (some (.aload_n 2)))) (re_br 113 (re_lf 110 (some (.getfield 45))) (re_lf 113 (some (.invokevirtual 57))))) (re_br 122 (re_br 119 (re_lf 116 (some (.iinc 1 1))) (re_lf 119 (some (.goto (-50))))) (re_br 123 (re_lf 122 (some (.aload_n 0))) (re_br 126 (re_lf 123 (some (.invokevirtual 65))) (re_lf 126 (some (.return_))))))))))
def rI386 : Nat → Option Instr := (re_br 16 (re_br 8 (re_br 4 (re_br 1 (re_lf 0 (some (.aload_n 1))) (re_lf 1 (some (.ifnull 28)))) (re_br 5 (re_lf 4 (some (.aload_n 1))) (re_lf 5 (some (.getfield 68))))) (re_br 12 (re_br 11 (re_lf 8 (some (.ifCond .ne 21))) (re_lf 11 (some (.aload_n 1)))) (re_br 13 (re_lf 12 (some (.iconst 1))) (re_lf 13 (some (.putfield 68)))))) (re_br 24 (re_br 18 (re_br 17 (re_lf 16 (some (.aload_n 1))) (re_lf 17 (some (.aload_n 0)))) (re_br 21 (re_lf 18 (some (.getfield 62))) (re_lf 21 (some (.putfield 28))))) (re_br 26 (re_br 25 (re_lf 24 (some (.aload_n 0))) (re_lf 25 (some (.aload_n 1)))) (re_br 29 (re_lf 26 (some (.putfield 62))) (re_lf 29 (some (.return_)))))))
def rI387 : Nat → Option Instr := (re_br 42 (re_br 20 (re_br 10 (re_br 5 (re_br 1 (re_lf 0 (some (.aload_n 0))) (re_br 2 (re_lf 1 (some (.aconst_null))) (re_lf 2 (some (.putfield 15))))) (re_br 6 (re_lf 5 (some (.aload_n 0))) (re_br 7 (re_lf 6 (some (.iconst 0))) (re_lf 7 (some (.putfield 31)))))) (re_br 15 (re_br 11 (re_lf 10 (some (.aload_n 0))) (re_br 12 (re_lf 11 (some (.iconst 0))) (re_lf 12 (some (.putfield 48))))) (re_br 16 (re_lf 15 (some (.aload_n 0))) (re_br 19 (re_lf 16 (some (.getfield 22))) (re_lf 19 (some (.astore_n 1))))))) (re_br 32 (re_br 25 (re_br 21 (re_lf 20 (some (.aload_n 1))) (re_br 24 (re_lf 21 (some (.ifnull 64))) (re_lf 24 (some (.aload_n 1))))) (re_br 28 (re_lf 25 (some (.getfield 68))) (re_br 31 (re_lf 28 (some (.ifCond .eq 21))) (re_lf 31 (some (.aload_n 1)))))) (re_br 37 (re_br 33 (re_lf 32 (some (.iconst 0))) (re_br 36 (re_lf 33 (some (.putfield 68))) (re_lf 36 (some (.aload_n 0))))) (re_br 38 (re_lf 37 (some (.dup))) (re_br 41 (re_lf 38 (some (.getfield 48))) (re_lf 41 (some (.iconst 1)))))))) (re_br 64 (re_br 54 (re_br 49 (re_br 43 (re_lf 42 (some (.iadd))) (re_br 46 (re_lf 43 (some (.putfield 48))) (re_lf 46 (some (.goto 31))))) (re_br 50 (re_lf 49 (some (.aload_n 1))) (re_br 51 (re_lf 50 (some (.aconst_null))) (re_lf 51 (some (.putfield 72)))))) (re_br 59 (re_br 55 (re_lf 54 (some (.aload_n 1))) (re_br 56 (re_lf 55 (some (.aconst_null))) (re_lf 56 (some (.putfield 42))))) (re_br 60 (re_lf 59 (some (.aload_n 1))) (re_br 61 (re_lf 60 (some (.aconst_null))) (re_lf 61 (some (.putfield 45))))))) (re_br 74 (re_br 69 (re_br 65 (re_lf 64 (some (.aload_n 1))) (re_br 66 (re_lf 65 (some (.aload_n 0))) (re_lf 66 (some (.getfield 15))))) (re_br 72 (re_lf 69 (some (.putfield 28))) (re_br 73 (re_lf 72 (some (.aload_n 0))) (re_lf 73 (some (.aload_n 1)))))) (re_br 81 (re_br 77 (re_lf 74 (some (.putfield 15))) (re_br 78 (re_lf 77 (some (.aload_n 1))) (re_lf 78 (some (.getfield 25))))) (re_br 82 (re_lf 81 (some (.astore_n 1))) (re_br 85 (re_lf 82 (some (.goto (-62)))) (re_lf 85 (some (.return_)))))))))
def rI388 : Nat → Option Instr := (re_br 49 (re_br 23 (re_br 11 (re_br 4 (re_br 1 (re_lf 0 (some (.aload_n 0))) (re_lf 1 (some (.getfield 15)))) (re_br 6 (re_lf 4 (some (.astore 6))) (re_br 8 (re_lf 6 (some (.aload 6))) (re_lf 8 (some (.ifnonnull 30)))))) (re_br 18 (re_br 14 (re_lf 11 (some (.new 19))) (re_br 15 (re_lf 14 (some (.dup))) (re_lf 15 (some (.invokespecial 21))))) (re_br 20 (re_lf 18 (some (.astore 6))) (re_br 22 (re_lf 20 (some (.aload 6))) (re_lf 22 (some (.aload_n 0))))))) (re_br 35 (re_br 29 (re_br 26 (re_lf 23 (some (.getfield 22))) (re_lf 26 (some (.putfield 25)))) (re_br 30 (re_lf 29 (some (.aload_n 0))) (re_br 32 (re_lf 30 (some (.aload 6))) (re_lf 32 (some (.putfield 22)))))) (re_br 41 (re_br 38 (re_lf 35 (some (.goto 18))) (re_br 39 (re_lf 38 (some (.aload_n 0))) (re_lf 39 (some (.aload 6))))) (re_br 44 (re_lf 41 (some (.getfield 28))) (re_br 47 (re_lf 44 (some (.putfield 15))) (re_lf 47 (some (.aload 6)))))))) (re_br 69 (re_br 58 (re_br 53 (re_br 50 (re_lf 49 (some (.aconst_null))) (re_lf 50 (some (.putfield 28)))) (re_br 54 (re_lf 53 (some (.aload_n 0))) (re_br 55 (re_lf 54 (some (.dup))) (re_lf 55 (some (.getfield 31)))))) (re_br 63 (re_br 59 (re_lf 58 (some (.iconst 1))) (re_br 60 (re_lf 59 (some (.iadd))) (re_lf 60 (some (.putfield 31))))) (re_br 65 (re_lf 63 (some (.aload 6))) (re_br 66 (re_lf 65 (some (.iload_n 1))) (re_lf 66 (some (.putfield 35))))))) (re_br 79 (re_br 72 (re_br 71 (re_lf 69 (some (.aload 6))) (re_lf 71 (some (.lload_n 2)))) (re_br 75 (re_lf 72 (some (.putfield 38))) (re_br 77 (re_lf 75 (some (.aload 6))) (re_lf 77 (some (.aload 4)))))) (re_br 86 (re_br 82 (re_lf 79 (some (.putfield 42))) (re_br 84 (re_lf 82 (some (.aload 6))) (re_lf 84 (some (.aload 5))))) (re_br 89 (re_lf 86 (some (.putfield 45))) (re_br 91 (re_lf 89 (some (.aload 6))) (re_lf 91 (some (.areturn)))))))))
def rI448 : Nat → Option Instr := (re_br 33 (re_br 15 (re_br 5 (re_br 1 (re_lf 0 (some (.aload_n 0))) (re_br 4 (re_lf 1 (some (.invokespecial 3))) (re_lf 4 (some (.aload_n 0))))) (re_br 11 (re_br 8 (re_lf 5 (some (.sipush 604))) (re_lf 8 (some (.anewarray 11)))) (re_br 14 (re_lf 11 (some (.putfield 13))) (re_lf 14 (some (.aload_n 0)))))) (re_br 24 (re_br 18 (re_lf 15 (some (.sipush 604))) (re_br 21 (re_lf 18 (some (.anewarray 17))) (re_lf 21 (some (.putfield 19))))) (re_br 28 (re_br 25 (re_lf 24 (some (.aload_n 0))) (re_lf 25 (some (.sipush 604)))) (re_br 30 (re_lf 28 (some (.newarray .boolean))) (re_lf 30 (some (.putfield 23))))))) (re_br 49 (re_br 39 (re_br 34 (re_lf 33 (some (.aload_n 0))) (re_br 37 (re_lf 34 (some (.sipush 301))) (re_lf 37 (some (.newarray .long))))) (re_br 43 (re_br 42 (re_lf 39 (some (.putfield 27))) (re_lf 42 (some (.aload_n 0)))) (re_br 46 (re_lf 43 (some (.sipush 301))) (re_lf 46 (some (.anewarray 17)))))) (re_br 57 (re_br 53 (re_br 52 (re_lf 49 (some (.putfield 31))) (re_lf 52 (some (.aload_n 0)))) (re_br 54 (re_lf 53 (some (.aload_n 1))) (re_lf 54 (some (.putfield 34))))) (re_br 59 (re_br 58 (re_lf 57 (some (.aload_n 0))) (re_lf 58 (some (.aload_n 2)))) (re_br 62 (re_lf 59 (some (.putfield 38))) (re_lf 62 (some (.return_))))))))
def rI449 : Nat → Option Instr := (re_br 14 (re_br 8 (re_br 4 (re_br 1 (re_lf 0 (some (.aload_n 0))) (re_lf 1 (some (.getfield 34)))) (re_br 7 (re_lf 4 (some (.invokevirtual 42))) (re_lf 7 (some (.aload_n 0))))) (re_br 12 (re_br 9 (re_lf 8 (some (.iload_n 1))) (re_lf 9 (some (.putfield 47)))) (re_br 13 (re_lf 12 (some (.aload_n 0))) (re_lf 13 (some (.iconst 0)))))) (re_br 22 (re_br 18 (re_br 17 (re_lf 14 (some (.putfield 51))) (re_lf 17 (some (.aload_n 0)))) (re_br 19 (re_lf 18 (some (.iconst 0))) (re_lf 19 (some (.putfield 54))))) (re_br 24 (re_br 23 (re_lf 22 (some (.aload_n 0))) (re_lf 23 (some (.aconst_null)))) (re_br 27 (re_lf 24 (some (.putfield 57))) (re_lf 27 (some (.return_)))))))
def rI450 : Nat → Option Instr := (re_br 7 (re_br 2 (re_br 1 (re_lf 0 (some (.aload_n 0))) (re_lf 1 (some (.aload_n 0)))) (re_br 5 (re_lf 2 (some (.getfield 34))) (re_br 6 (re_lf 5 (some (.iload_n 1))) (re_lf 6 (some (.lload_n 2)))))) (re_br 13 (re_br 9 (re_lf 7 (some (.aload 4))) (re_br 10 (re_lf 9 (some (.aload_n 0))) (re_lf 10 (some (.getfield 57))))) (re_br 16 (re_lf 13 (some (.invokevirtual 61))) (re_br 19 (re_lf 16 (some (.putfield 57))) (re_lf 19 (some (.return_)))))))
def rI451 : Nat → Option Instr := (re_br 64 (re_br 29 (re_br 13 (re_br 6 (re_br 2 (re_br 1 (re_lf 0 (some (.aload_n 0))) (re_lf 1 (some (.iconst 0)))) (re_br 5 (re_lf 2 (some (.putfield 65))) (re_lf 5 (some (.aload_n 0))))) (re_br 10 (re_br 7 (re_lf 6 (some (.iconst 0))) (re_lf 7 (some (.putfield 68)))) (re_br 11 (re_lf 10 (some (.aload_n 0))) (re_br 12 (re_lf 11 (some (.aload_n 1))) (re_lf 12 (some (.aload_n 0))))))) (re_br 21 (re_br 17 (re_br 16 (re_lf 13 (some (.getfield 57))) (re_lf 16 (some (.iconst 0)))) (re_br 20 (re_lf 17 (some (.invokevirtual 71))) (re_lf 20 (some (.iconst 0))))) (re_br 23 (re_br 22 (re_lf 21 (some (.istore_n 2))) (re_lf 22 (some (.iload_n 2)))) (re_br 25 (re_lf 23 (some (.ldc 75))) (re_br 28 (re_lf 25 (some (.if_icmp .ge 91))) (re_lf 28 (some (.aload_n 0)))))))) (re_br 46 (re_br 37 (re_br 35 (re_br 32 (re_lf 29 (some (.getfield 65))) (re_lf 32 (some (.ifCond .le 84)))) (re_br 36 (re_lf 35 (some (.aload_n 0))) (re_lf 36 (some (.dup))))) (re_br 41 (re_br 40 (re_lf 37 (some (.getfield 65))) (re_lf 40 (some (.iconst 1)))) (re_br 42 (re_lf 41 (some (.isub))) (re_br 45 (re_lf 42 (some (.putfield 65))) (re_lf 45 (some (.aload_n 0))))))) (re_br 55 (re_br 50 (re_br 49 (re_lf 46 (some (.getfield 13))) (re_lf 49 (some (.aload_n 0)))) (re_br 53 (re_lf 50 (some (.getfield 65))) (re_br 54 (re_lf 53 (some (.aaload))) (re_lf 54 (some (.astore_n 3)))))) (re_br 59 (re_br 56 (re_lf 55 (some (.aload_n 3))) (re_lf 56 (some (.ifnull 52)))) (re_br 60 (re_lf 59 (some (.aload_n 0))) (re_br 63 (re_lf 60 (some (.getfield 23))) (re_lf 63 (some (.aload_n 0))))))))) (re_br 98 (re_br 81 (re_br 72 (re_br 68 (re_br 67 (re_lf 64 (some (.getfield 65))) (re_lf 67 (some (.baload)))) (re_br 71 (re_lf 68 (some (.ifCond .eq 23))) (re_lf 71 (some (.aload_n 0))))) (re_br 74 (re_br 73 (re_lf 72 (some (.aload_n 3))) (re_lf 73 (some (.aload_n 0)))) (re_br 77 (re_lf 74 (some (.getfield 19))) (re_br 78 (re_lf 77 (some (.aload_n 0))) (re_lf 78 (some (.getfield 65))))))) (re_br 91 (re_br 85 (re_br 82 (re_lf 81 (some (.aaload))) (re_lf 82 (some (.invokevirtual 76)))) (re_br 88 (re_lf 85 (some (.ifCond .eq 23))) (re_lf 88 (some (.goto 22))))) (re_br 93 (re_br 92 (re_lf 91 (some (.aload_n 0))) (re_lf 92 (some (.aload_n 3)))) (re_br 94 (re_lf 93 (some (.aload_n 0))) (re_br 97 (re_lf 94 (some (.getfield 19))) (re_lf 97 (some (.aload_n 0)))))))) (re_br 117 (re_br 108 (re_br 102 (re_br 101 (re_lf 98 (some (.getfield 65))) (re_lf 101 (some (.aaload)))) (re_br 105 (re_lf 102 (some (.invokevirtual 80))) (re_lf 105 (some (.ifCond .ne 5))))) (re_br 110 (re_br 109 (re_lf 108 (some (.iconst 0))) (re_lf 109 (some (.ireturn)))) (re_br 113 (re_lf 110 (some (.iinc 2 1))) (re_br 116 (re_lf 113 (some (.goto (-91)))) (re_lf 116 (some (.aload_n 0))))))) (re_br 128 (re_br 123 (re_br 120 (re_lf 117 (some (.getfield 65))) (re_lf 120 (some (.ifCond .ne 15)))) (re_br 124 (re_lf 123 (some (.aload_n 0))) (re_br 127 (re_lf 124 (some (.getfield 68))) (re_lf 127 (some (.iconst 1)))))) (re_br 132 (re_br 131 (re_lf 128 (some (.if_icmp .ne 7))) (re_lf 131 (some (.iconst 1)))) (re_br 135 (re_lf 132 (some (.goto 4))) (re_br 136 (re_lf 135 (some (.iconst 0))) (re_lf 136 (some (.ireturn))))))))))
def rI452 : Nat → Option Instr := (re_br 28 (re_br 15 (re_br 7 (re_br 1 (re_lf 0 (some (.aload_n 0))) (re_br 4 (re_lf 1 (some (.getfield 65))) (re_lf 4 (some (.sipush 604))))) (re_br 11 (re_br 10 (re_lf 7 (some (.if_icmp .ge 43))) (re_lf 10 (some (.aload_n 0)))) (re_br 14 (re_lf 11 (some (.getfield 13))) (re_lf 14 (some (.aload_n 0)))))) (re_br 20 (re_br 18 (re_lf 15 (some (.getfield 65))) (re_br 19 (re_lf 18 (some (.aload_n 1))) (re_lf 19 (some (.aastore))))) (re_br 24 (re_br 21 (re_lf 20 (some (.aload_n 0))) (re_lf 21 (some (.getfield 19)))) (re_br 25 (re_lf 24 (some (.aload_n 0))) (re_lf 25 (some (.getfield 65))))))) (re_br 39 (re_br 31 (re_br 29 (re_lf 28 (some (.aload_n 2))) (re_br 30 (re_lf 29 (some (.aastore))) (re_lf 30 (some (.aload_n 0))))) (re_br 35 (re_br 34 (re_lf 31 (some (.getfield 23))) (re_lf 34 (some (.aload_n 0)))) (re_br 38 (re_lf 35 (some (.getfield 65))) (re_lf 38 (some (.iload_n 3)))))) (re_br 45 (re_br 41 (re_br 40 (re_lf 39 (some (.bastore))) (re_lf 40 (some (.aload_n 0)))) (re_br 42 (re_lf 41 (some (.dup))) (re_lf 42 (some (.getfield 65))))) (re_br 47 (re_br 46 (re_lf 45 (some (.iconst 1))) (re_lf 46 (some (.iadd)))) (re_br 50 (re_lf 47 (some (.putfield 65))) (re_lf 50 (some (.return_))))))))
def rI453 : Nat → Option Instr := (re_br 60 (re_br 49 (re_br 44 (re_br 1 (re_lf 0 (some (.aload_n 1))) (re_br 4 (re_lf 1 (some (.getfield 83))) (re_lf 4 (some (.tableswitch 73 3 8 #[40, 45, 54, 61, 73, 68]))))) (re_br 45 (re_lf 44 (some (.aload_n 0))) (re_br 48 (re_lf 45 (some (.invokevirtual 132))) (re_lf 48 (some (.ireturn)))))) (re_br 54 (re_br 50 (re_lf 49 (some (.aload_n 0))) (re_br 51 (re_lf 50 (some (.aload_n 1))) (re_lf 51 (some (.getfield 94))))) (re_br 58 (re_br 57 (re_lf 54 (some (.invokevirtual 136))) (re_lf 57 (some (.ireturn)))) (re_br 59 (re_lf 58 (some (.aload_n 0))) (re_lf 59 (some (.aload_n 1))))))) (re_br 68 (re_br 65 (re_br 61 (re_lf 60 (some (.aload_n 2))) (re_br 64 (re_lf 61 (some (.invokevirtual 140))) (re_lf 64 (some (.ireturn))))) (re_br 66 (re_lf 65 (some (.aload_n 0))) (re_br 67 (re_lf 66 (some (.aload_n 1))) (re_lf 67 (some (.aload_n 2)))))) (re_br 73 (re_br 71 (re_lf 68 (some (.invokevirtual 143))) (re_br 72 (re_lf 71 (some (.ireturn))) (re_lf 72 (some (.aload_n 0))))) (re_br 77 (re_br 76 (re_lf 73 (some (.invokevirtual 146))) (re_lf 76 (some (.ireturn)))) (re_br 78 (re_lf 77 (some (.iconst 0))) (re_lf 78 (some (.ireturn))))))))
def rI454 : Nat → Option Instr := (re_br 68 (re_br 34 (re_br 18 (re_br 9 (re_br 4 (re_br 1 (re_lf 0 (some (.aload_n 0))) (re_lf 1 (some (.getfield 68)))) (re_br 5 (re_lf 4 (some (.iconst 1))) (re_br 8 (re_lf 5 (some (.if_icmp .lt 33))) (re_lf 8 (some (.aload_n 0)))))) (re_br 13 (re_br 12 (re_lf 9 (some (.getfield 31))) (re_lf 12 (some (.aload_n 0)))) (re_br 16 (re_lf 13 (some (.getfield 68))) (re_br 17 (re_lf 16 (some (.iconst 1))) (re_lf 17 (some (.isub))))))) (re_br 27 (re_br 22 (re_br 19 (re_lf 18 (some (.aaload))) (re_lf 19 (some (.ifnonnull 19)))) (re_br 23 (re_lf 22 (some (.aload_n 0))) (re_br 26 (re_lf 23 (some (.getfield 27))) (re_lf 26 (some (.aload_n 0)))))) (re_br 31 (re_br 30 (re_lf 27 (some (.getfield 68))) (re_lf 30 (some (.iconst 1)))) (re_br 32 (re_lf 31 (some (.isub))) (re_br 33 (re_lf 32 (some (.laload))) (re_lf 33 (some (.lconst 1)))))))) (re_br 50 (re_br 41 (re_br 38 (re_br 35 (re_lf 34 (some (.lcmp))) (re_lf 35 (some (.ifCond .ge 5)))) (re_br 39 (re_lf 38 (some (.iconst 0))) (re_br 40 (re_lf 39 (some (.ireturn))) (re_lf 40 (some (.aload_n 0)))))) (re_br 45 (re_br 42 (re_lf 41 (some (.dup))) (re_lf 42 (some (.getfield 68)))) (re_br 46 (re_lf 45 (some (.iconst 1))) (re_br 47 (re_lf 46 (some (.isub))) (re_lf 47 (some (.putfield 68))))))) (re_br 57 (re_br 52 (re_br 51 (re_lf 50 (some (.aload_n 0))) (re_lf 51 (some (.dup)))) (re_br 55 (re_lf 52 (some (.getfield 54))) (re_br 56 (re_lf 55 (some (.iconst 1))) (re_lf 56 (some (.iadd)))))) (re_br 61 (re_br 60 (re_lf 57 (some (.putfield 54))) (re_lf 60 (some (.aload_n 0)))) (re_br 64 (re_lf 61 (some (.getfield 27))) (re_br 65 (re_lf 64 (some (.aload_n 0))) (re_lf 65 (some (.getfield 68))))))))) (re_br 102 (re_br 87 (re_br 77 (re_br 72 (re_br 69 (re_lf 68 (some (.laload))) (re_lf 69 (some (.ldc2_w 149)))) (re_br 75 (re_lf 72 (some (.invokestatic 151))) (re_br 76 (re_lf 75 (some (.l2i))) (re_lf 76 (some (.istore_n 1)))))) (re_br 81 (re_br 78 (re_lf 77 (some (.aload_n 0))) (re_lf 78 (some (.getfield 38)))) (re_br 84 (re_lf 81 (some (.getfield 157))) (re_br 86 (re_lf 84 (some (.bipush 31))) (re_lf 86 (some (.imul))))))) (re_br 95 (re_br 91 (re_br 88 (re_lf 87 (some (.aload_n 0))) (re_lf 88 (some (.getfield 47)))) (re_br 93 (re_lf 91 (some (.bipush 17))) (re_br 94 (re_lf 93 (some (.imul))) (re_lf 94 (some (.iadd)))))) (re_br 99 (re_br 96 (re_lf 95 (some (.aload_n 0))) (re_lf 96 (some (.getfield 54)))) (re_br 100 (re_lf 99 (some (.iadd))) (re_br 101 (re_lf 100 (some (.istore_n 2))) (re_lf 101 (some (.iload_n 2)))))))) (re_br 117 (re_br 110 (re_br 105 (re_br 104 (re_lf 102 (some (.ldc 160))) (re_lf 104 (some (.imul)))) (re_br 107 (re_lf 105 (some (.ldc 161))) (re_br 108 (re_lf 107 (some (.iadd))) (re_lf 108 (some (.bipush 16)))))) (re_br 112 (re_br 111 (re_lf 110 (some (.iushr))) (re_lf 111 (some (.istore_n 3)))) (re_br 113 (re_lf 112 (some (.iload_n 1))) (re_br 116 (re_lf 113 (some (.ifCond .le 19))) (re_lf 116 (some (.aload_n 0))))))) (re_br 122 (re_br 119 (re_br 118 (re_lf 117 (some (.iload_n 3))) (re_lf 118 (some (.iload_n 1)))) (re_br 120 (re_lf 119 (some (.irem))) (re_br 121 (re_lf 120 (some (.i2l))) (re_lf 121 (some (.aconst_null)))))) (re_br 129 (re_br 125 (re_lf 122 (some (.invokevirtual 90))) (re_br 128 (re_lf 125 (some (.ifCond .eq 7))) (re_lf 128 (some (.iconst 1))))) (re_br 132 (re_lf 129 (some (.goto 4))) (re_br 133 (re_lf 132 (some (.iconst 0))) (re_lf 133 (some (.ireturn))))))))))
def rI455 : Nat → Option Instr := (re_br 23 (re_br 12 (re_br 7 (re_br 1 (re_lf 0 (some (.aload_n 0))) (re_br 4 (re_lf 1 (some (.getfield 68))) (re_lf 4 (some (.sipush 300))))) (re_br 10 (re_lf 7 (some (.if_icmp .le 5))) (re_br 11 (re_lf 10 (some (.iconst 0))) (re_lf 11 (some (.ireturn)))))) (re_br 17 (re_br 13 (re_lf 12 (some (.aload_n 0))) (re_br 16 (re_lf 13 (some (.getfield 27))) (re_lf 16 (some (.aload_n 0))))) (re_br 21 (re_br 20 (re_lf 17 (some (.getfield 68))) (re_lf 20 (some (.lload_n 1)))) (re_br 22 (re_lf 21 (some (.lastore))) (re_lf 22 (some (.aload_n 0))))))) (re_br 33 (re_br 30 (re_br 26 (re_lf 23 (some (.getfield 31))) (re_br 27 (re_lf 26 (some (.aload_n 0))) (re_lf 27 (some (.getfield 68))))) (re_br 31 (re_lf 30 (some (.aload_n 3))) (re_br 32 (re_lf 31 (some (.aastore))) (re_lf 32 (some (.aload_n 0)))))) (re_br 38 (re_br 34 (re_lf 33 (some (.dup))) (re_br 37 (re_lf 34 (some (.getfield 68))) (re_lf 37 (some (.iconst 1))))) (re_br 42 (re_br 39 (re_lf 38 (some (.iadd))) (re_lf 39 (some (.putfield 68)))) (re_br 43 (re_lf 42 (some (.iconst 1))) (re_lf 43 (some (.ireturn))))))))
def rI456 : Nat → Option Instr := (re_br 66 (re_br 33 (re_br 17 (re_br 8 (re_br 4 (re_br 1 (re_lf 0 (some (.aload_n 0))) (re_lf 1 (some (.getfield 68)))) (re_br 5 (re_lf 4 (some (.iconst 2))) (re_lf 5 (some (.if_icmp .lt 31))))) (re_br 12 (re_br 9 (re_lf 8 (some (.aload_n 0))) (re_lf 9 (some (.getfield 31)))) (re_br 13 (re_lf 12 (some (.aload_n 0))) (re_br 16 (re_lf 13 (some (.getfield 68))) (re_lf 16 (some (.iconst 1))))))) (re_br 26 (re_br 19 (re_br 18 (re_lf 17 (some (.isub))) (re_lf 18 (some (.aaload)))) (re_br 22 (re_lf 19 (some (.ifnonnull 17))) (re_br 23 (re_lf 22 (some (.aload_n 0))) (re_lf 23 (some (.getfield 31)))))) (re_br 30 (re_br 27 (re_lf 26 (some (.aload_n 0))) (re_lf 27 (some (.getfield 68)))) (re_br 31 (re_lf 30 (some (.iconst 2))) (re_br 32 (re_lf 31 (some (.isub))) (re_lf 32 (some (.aaload)))))))) (re_br 48 (re_br 39 (re_br 37 (re_br 36 (re_lf 33 (some (.ifnull 5))) (re_lf 36 (some (.iconst 0)))) (re_br 38 (re_lf 37 (some (.ireturn))) (re_lf 38 (some (.aload_n 0))))) (re_br 43 (re_br 40 (re_lf 39 (some (.dup))) (re_lf 40 (some (.getfield 68)))) (re_br 44 (re_lf 43 (some (.iconst 2))) (re_br 45 (re_lf 44 (some (.isub))) (re_lf 45 (some (.putfield 68))))))) (re_br 57 (re_br 52 (re_br 49 (re_lf 48 (some (.aload_n 0))) (re_lf 49 (some (.getfield 27)))) (re_br 53 (re_lf 52 (some (.aload_n 0))) (re_br 56 (re_lf 53 (some (.getfield 68))) (re_lf 56 (some (.laload)))))) (re_br 59 (re_br 58 (re_lf 57 (some (.lstore_n 2))) (re_lf 58 (some (.aload_n 0)))) (re_br 62 (re_lf 59 (some (.getfield 27))) (re_br 63 (re_lf 62 (some (.aload_n 0))) (re_lf 63 (some (.getfield 68))))))))) (re_br 119 (re_br 104 (re_br 71 (re_br 68 (re_br 67 (re_lf 66 (some (.iconst 1))) (re_lf 67 (some (.iadd)))) (re_br 69 (re_lf 68 (some (.laload))) (re_lf 69 (some (.lstore 4))))) (re_br 100 (re_br 72 (re_lf 71 (some (.iload_n 1))) (re_lf 72 (some (.tableswitch 58 0 2 #[28, 38, 48])))) (re_br 101 (re_lf 100 (some (.aload_n 0))) (re_br 102 (re_lf 101 (some (.lload_n 2))) (re_lf 102 (some (.lload 4))))))) (re_br 111 (re_br 106 (re_br 105 (re_lf 104 (some (.ladd))) (re_lf 105 (some (.aconst_null)))) (re_br 109 (re_lf 106 (some (.invokevirtual 90))) (re_br 110 (re_lf 109 (some (.ireturn))) (re_lf 110 (some (.aload_n 0)))))) (re_br 114 (re_br 112 (re_lf 111 (some (.lload_n 2))) (re_lf 112 (some (.lload 4)))) (re_br 115 (re_lf 114 (some (.lsub))) (re_br 116 (re_lf 115 (some (.aconst_null))) (re_lf 116 (some (.invokevirtual 90)))))))) (re_br 131 (re_br 124 (re_br 121 (re_br 120 (re_lf 119 (some (.ireturn))) (re_lf 120 (some (.aload_n 0)))) (re_br 122 (re_lf 121 (some (.lload_n 2))) (re_lf 122 (some (.lload 4))))) (re_br 126 (re_br 125 (re_lf 124 (some (.lmul))) (re_lf 125 (some (.aconst_null)))) (re_br 129 (re_lf 126 (some (.invokevirtual 90))) (re_br 130 (re_lf 129 (some (.ireturn))) (re_lf 130 (some (.aload_n 0))))))) (re_br 139 (re_br 134 (re_br 132 (re_lf 131 (some (.lload_n 2))) (re_lf 132 (some (.lload 4)))) (re_br 135 (re_lf 134 (some (.lcmp))) (re_br 138 (re_lf 135 (some (.ifCond .ge 7))) (re_lf 138 (some (.lconst 1)))))) (re_br 143 (re_br 142 (re_lf 139 (some (.goto 4))) (re_lf 142 (some (.lconst 0)))) (re_br 144 (re_lf 143 (some (.aconst_null))) (re_br 147 (re_lf 144 (some (.invokevirtual 90))) (re_lf 147 (some (.ireturn))))))))))
def rI457 : Nat → Option Instr := (re_br 31 (re_br 17 (re_br 8 (re_br 4 (re_br 1 (re_lf 0 (some (.aload_n 0))) (re_lf 1 (some (.getfield 68)))) (re_br 5 (re_lf 4 (some (.iconst 1))) (re_lf 5 (some (.if_icmp .lt 17))))) (re_br 12 (re_br 9 (re_lf 8 (some (.aload_n 0))) (re_lf 9 (some (.getfield 31)))) (re_br 13 (re_lf 12 (some (.aload_n 0))) (re_br 16 (re_lf 13 (some (.getfield 68))) (re_lf 16 (some (.iconst 1))))))) (re_br 24 (re_br 19 (re_br 18 (re_lf 17 (some (.isub))) (re_lf 18 (some (.aaload)))) (re_br 22 (re_lf 19 (some (.ifnull 5))) (re_br 23 (re_lf 22 (some (.iconst 0))) (re_lf 23 (some (.ireturn)))))) (re_br 26 (re_br 25 (re_lf 24 (some (.aload_n 0))) (re_lf 25 (some (.dup)))) (re_br 29 (re_lf 26 (some (.getfield 68))) (re_br 30 (re_lf 29 (some (.iconst 1))) (re_lf 30 (some (.isub)))))))) (re_br 49 (re_br 40 (re_br 35 (re_br 34 (re_lf 31 (some (.putfield 68))) (re_lf 34 (some (.aload_n 0)))) (re_br 36 (re_lf 35 (some (.aload_n 0))) (re_br 39 (re_lf 36 (some (.getfield 27))) (re_lf 39 (some (.aload_n 0)))))) (re_br 44 (re_br 43 (re_lf 40 (some (.getfield 68))) (re_lf 43 (some (.laload)))) (re_br 45 (re_lf 44 (some (.lconst 0))) (re_br 46 (re_lf 45 (some (.lcmp))) (re_lf 46 (some (.ifCond .eq 10))))))) (re_br 60 (re_br 53 (re_br 50 (re_lf 49 (some (.aload_n 1))) (re_lf 50 (some (.getfield 109)))) (re_br 56 (re_lf 53 (some (.goto 7))) (re_br 57 (re_lf 56 (some (.aload_n 1))) (re_lf 57 (some (.getfield 162)))))) (re_br 62 (re_br 61 (re_lf 60 (some (.aload_n 2))) (re_lf 61 (some (.iconst 0)))) (re_br 65 (re_lf 62 (some (.invokevirtual 71))) (re_br 66 (re_lf 65 (some (.iconst 1))) (re_lf 66 (some (.ireturn)))))))))
def rI458 : Nat → Option Instr := (re_br 29 (re_br 12 (re_br 8 (re_br 4 (re_br 1 (re_lf 0 (some (.aload_n 0))) (re_lf 1 (some (.getfield 68)))) (re_br 5 (re_lf 4 (some (.iconst 1))) (re_lf 5 (some (.if_icmp .ge 5))))) (re_br 10 (re_br 9 (re_lf 8 (some (.iconst 0))) (re_lf 9 (some (.ireturn)))) (re_br 11 (re_lf 10 (some (.aload_n 0))) (re_lf 11 (some (.dup)))))) (re_br 20 (re_br 16 (re_br 15 (re_lf 12 (some (.getfield 68))) (re_lf 15 (some (.iconst 1)))) (re_br 17 (re_lf 16 (some (.isub))) (re_lf 17 (some (.putfield 68))))) (re_br 22 (re_br 21 (re_lf 20 (some (.aload_n 0))) (re_lf 21 (some (.aload_n 1)))) (re_br 25 (re_lf 22 (some (.getfield 109))) (re_br 26 (re_lf 25 (some (.aload_n 0))) (re_lf 26 (some (.getfield 34)))))))) (re_br 46 (re_br 37 (re_br 33 (re_br 30 (re_lf 29 (some (.aload_n 1))) (re_lf 30 (some (.getfield 94)))) (re_br 34 (re_lf 33 (some (.aload_n 0))) (re_lf 34 (some (.getfield 27))))) (re_br 41 (re_br 38 (re_lf 37 (some (.aload_n 0))) (re_lf 38 (some (.getfield 68)))) (re_br 42 (re_lf 41 (some (.laload))) (re_br 43 (re_lf 42 (some (.aload_n 0))) (re_lf 43 (some (.getfield 31))))))) (re_br 52 (re_br 50 (re_br 47 (re_lf 46 (some (.aload_n 0))) (re_lf 47 (some (.getfield 68)))) (re_br 51 (re_lf 50 (some (.aaload))) (re_lf 51 (some (.aload_n 2))))) (re_br 56 (re_br 55 (re_lf 52 (some (.invokevirtual 61))) (re_lf 55 (some (.iconst 0)))) (re_br 59 (re_lf 56 (some (.invokevirtual 71))) (re_br 60 (re_lf 59 (some (.iconst 1))) (re_lf 60 (some (.ireturn)))))))))
def rI459 : Nat → Option Instr := (re_br 48 (re_br 24 (re_br 11 (re_br 5 (re_br 1 (re_lf 0 (some (.aload_n 0))) (re_br 4 (re_lf 1 (some (.getfield 68))) (re_lf 4 (some (.iconst 2))))) (re_br 9 (re_br 8 (re_lf 5 (some (.if_icmp .ge 5))) (re_lf 8 (some (.iconst 0)))) (re_br 10 (re_lf 9 (some (.ireturn))) (re_lf 10 (some (.aload_n 0)))))) (re_br 16 (re_br 12 (re_lf 11 (some (.dup))) (re_br 15 (re_lf 12 (some (.getfield 68))) (re_lf 15 (some (.iconst 2))))) (re_br 20 (re_br 17 (re_lf 16 (some (.isub))) (re_lf 17 (some (.putfield 68)))) (re_br 21 (re_lf 20 (some (.aload_n 0))) (re_lf 21 (some (.getfield 31))))))) (re_br 35 (re_br 29 (re_br 25 (re_lf 24 (some (.aload_n 0))) (re_br 28 (re_lf 25 (some (.getfield 68))) (re_lf 28 (some (.aaload))))) (re_br 31 (re_br 30 (re_lf 29 (some (.astore_n 1))) (re_lf 30 (some (.aload_n 1)))) (re_br 34 (re_lf 31 (some (.ifnull 10))) (re_lf 34 (some (.aload_n 1)))))) (re_br 42 (re_br 38 (re_lf 35 (some (.getfield 129))) (re_br 41 (re_lf 38 (some (.ifnonnull 5))) (re_lf 41 (some (.iconst 0))))) (re_br 44 (re_br 43 (re_lf 42 (some (.ireturn))) (re_lf 43 (some (.aload_n 0)))) (re_br 47 (re_lf 44 (some (.getfield 34))) (re_lf 47 (some (.aload_n 1)))))))) (re_br 74 (re_br 63 (re_br 55 (re_br 51 (re_lf 48 (some (.getfield 129))) (re_br 54 (re_lf 51 (some (.getfield 94))) (re_lf 54 (some (.aload_n 0))))) (re_br 59 (re_br 58 (re_lf 55 (some (.getfield 27))) (re_lf 58 (some (.aload_n 0)))) (re_br 62 (re_lf 59 (some (.getfield 68))) (re_lf 62 (some (.iconst 1)))))) (re_br 66 (re_br 64 (re_lf 63 (some (.iadd))) (re_br 65 (re_lf 64 (some (.laload))) (re_lf 65 (some (.aload_n 0))))) (re_br 70 (re_br 69 (re_lf 66 (some (.getfield 31))) (re_lf 69 (some (.aload_n 0)))) (re_br 73 (re_lf 70 (some (.getfield 68))) (re_lf 73 (some (.iconst 1))))))) (re_br 85 (re_br 77 (re_br 75 (re_lf 74 (some (.iadd))) (re_br 76 (re_lf 75 (some (.aaload))) (re_lf 76 (some (.aload_n 1))))) (re_br 83 (re_br 80 (re_lf 77 (some (.getfield 123))) (re_lf 80 (some (.invokevirtual 61)))) (re_br 84 (re_lf 83 (some (.astore_n 2))) (re_lf 84 (some (.aload_n 0)))))) (re_br 93 (re_br 89 (re_br 86 (re_lf 85 (some (.aload_n 1))) (re_lf 86 (some (.getfield 129)))) (re_br 92 (re_lf 89 (some (.getfield 109))) (re_lf 92 (some (.aload_n 2))))) (re_br 97 (re_br 94 (re_lf 93 (some (.iconst 0))) (re_lf 94 (some (.invokevirtual 71)))) (re_br 98 (re_lf 97 (some (.iconst 1))) (re_lf 98 (some (.ireturn)))))))))
def rI460 : Nat → Option Instr := (re_br 114 (re_br 81 (re_br 17 (re_br 10 (re_br 4 (re_br 1 (re_lf 0 (some (.aload_n 0))) (re_lf 1 (some (.getfield 51)))) (re_br 7 (re_lf 4 (some (.sipush 300))) (re_lf 7 (some (.if_icmp .lt 5))))) (re_br 12 (re_br 11 (re_lf 10 (some (.iconst 0))) (re_lf 11 (some (.ireturn)))) (re_br 13 (re_lf 12 (some (.aload_n 0))) (re_br 14 (re_lf 13 (some (.dup))) (re_lf 14 (some (.getfield 51))))))) (re_br 23 (re_br 19 (re_br 18 (re_lf 17 (some (.iconst 1))) (re_lf 18 (some (.iadd)))) (re_br 22 (re_lf 19 (some (.putfield 51))) (re_lf 22 (some (.aload_n 1))))) (re_br 76 (re_br 26 (re_lf 23 (some (.getfield 83))) (re_lf 26 (some (.tableswitch 124 0 8 #[50, 60, 70, 124, 95, 124, 124, 88, 95])))) (re_br 77 (re_lf 76 (some (.aload_n 0))) (re_br 78 (re_lf 77 (some (.aload_n 1))) (re_lf 78 (some (.getfield 86)))))))) (re_br 96 (re_br 87 (re_br 85 (re_br 82 (re_lf 81 (some (.aconst_null))) (re_lf 82 (some (.invokevirtual 90)))) (re_br 86 (re_lf 85 (some (.ireturn))) (re_lf 86 (some (.aload_n 0))))) (re_br 91 (re_br 88 (re_lf 87 (some (.aload_n 1))) (re_lf 88 (some (.getfield 94)))) (re_br 92 (re_lf 91 (some (.aload_n 2))) (re_br 95 (re_lf 92 (some (.invokevirtual 97))) (re_lf 95 (some (.ireturn))))))) (re_br 105 (re_br 98 (re_br 97 (re_lf 96 (some (.aload_n 0))) (re_lf 97 (some (.aload_n 0)))) (re_br 101 (re_lf 98 (some (.getfield 38))) (re_br 104 (re_lf 101 (some (.getfield 101))) (re_lf 104 (some (.aload_n 1)))))) (re_br 109 (re_br 108 (re_lf 105 (some (.getfield 94))) (re_lf 108 (some (.laload)))) (re_br 110 (re_lf 109 (some (.aconst_null))) (re_br 113 (re_lf 110 (some (.invokevirtual 90))) (re_lf 113 (some (.ireturn))))))))) (re_br 140 (re_br 125 (re_br 120 (re_br 116 (re_br 115 (re_lf 114 (some (.aload_n 0))) (re_lf 115 (some (.aload_n 1)))) (re_br 117 (re_lf 116 (some (.aload_n 2))) (re_lf 117 (some (.invokevirtual 106))))) (re_br 122 (re_br 121 (re_lf 120 (some (.ireturn))) (re_lf 121 (some (.aload_n 0)))) (re_br 123 (re_lf 122 (some (.aload_n 1))) (re_br 124 (re_lf 123 (some (.aload_n 2))) (re_lf 124 (some (.iconst 1))))))) (re_br 133 (re_br 129 (re_br 128 (re_lf 125 (some (.invokevirtual 71))) (re_lf 128 (some (.aload_n 0)))) (re_br 130 (re_lf 129 (some (.aload_n 1))) (re_lf 130 (some (.getfield 109))))) (re_br 135 (re_br 134 (re_lf 133 (some (.aload_n 2))) (re_lf 134 (some (.iconst 0)))) (re_br 138 (re_lf 135 (some (.invokevirtual 71))) (re_br 139 (re_lf 138 (some (.aload_n 0))) (re_lf 139 (some (.aload_n 1)))))))) (re_br 153 (re_br 148 (re_br 144 (re_br 143 (re_lf 140 (some (.getfield 113))) (re_lf 143 (some (.aload_n 2)))) (re_br 145 (re_lf 144 (some (.iconst 0))) (re_lf 145 (some (.invokevirtual 71))))) (re_br 150 (re_br 149 (re_lf 148 (some (.iconst 1))) (re_lf 149 (some (.ireturn)))) (re_br 151 (re_lf 150 (some (.aload_n 0))) (re_br 152 (re_lf 151 (some (.aload_n 1))) (re_lf 152 (some (.aload_n 2))))))) (re_br 162 (re_br 157 (re_br 154 (re_lf 153 (some (.iconst 1))) (re_lf 154 (some (.invokevirtual 71)))) (re_br 158 (re_lf 157 (some (.aload_n 0))) (re_br 159 (re_lf 158 (some (.aload_n 1))) (re_lf 159 (some (.getfield 113)))))) (re_br 164 (re_br 163 (re_lf 162 (some (.aload_n 2))) (re_lf 163 (some (.iconst 0)))) (re_br 167 (re_lf 164 (some (.invokevirtual 71))) (re_br 168 (re_lf 167 (some (.iconst 1))) (re_lf 168 (some (.ireturn))))))))))
def rI461 : Nat → Option Instr := (re_br 16 (re_br 7 (re_br 2 (re_br 1 (re_lf 0 (some (.aload_n 2))) (re_lf 1 (some (.astore_n 3)))) (re_br 3 (re_lf 2 (some (.aload_n 3))) (re_br 6 (re_lf 3 (some (.ifnull 32))) (re_lf 6 (some (.aload_n 3)))))) (re_br 11 (re_br 10 (re_lf 7 (some (.getfield 116))) (re_lf 10 (some (.iload_n 1)))) (re_br 14 (re_lf 11 (some (.if_icmp .ne 16))) (re_br 15 (re_lf 14 (some (.aload_n 0))) (re_lf 15 (some (.aload_n 3))))))) (re_br 27 (re_br 20 (re_br 19 (re_lf 16 (some (.getfield 119))) (re_lf 19 (some (.aload_n 3)))) (re_br 23 (re_lf 20 (some (.getfield 120))) (re_br 26 (re_lf 23 (some (.invokevirtual 90))) (re_lf 26 (some (.ireturn)))))) (re_br 32 (re_br 28 (re_lf 27 (some (.aload_n 3))) (re_br 31 (re_lf 28 (some (.getfield 123))) (re_lf 31 (some (.astore_n 3))))) (re_br 35 (re_lf 32 (some (.goto (-30)))) (re_br 36 (re_lf 35 (some (.iconst 0))) (re_lf 36 (some (.ireturn))))))))
def rI462 : Nat → Option Instr := (re_br 20 (re_br 12 (re_br 5 (re_br 1 (re_lf 0 (some (.aload_n 0))) (re_br 4 (re_lf 1 (some (.getfield 34))) (re_lf 4 (some (.aload_n 1))))) (re_br 8 (re_lf 5 (some (.getfield 94))) (re_br 9 (re_lf 8 (some (.aload_n 0))) (re_lf 9 (some (.getfield 126)))))) (re_br 17 (re_br 13 (re_lf 12 (some (.aconst_null))) (re_br 14 (re_lf 13 (some (.aload_n 2))) (re_lf 14 (some (.invokevirtual 61))))) (re_br 18 (re_lf 17 (some (.astore_n 3))) (re_br 19 (re_lf 18 (some (.aload_n 3))) (re_lf 19 (some (.aload_n 1))))))) (re_br 30 (re_br 25 (re_br 23 (re_lf 20 (some (.putfield 129))) (re_br 24 (re_lf 23 (some (.aload_n 0))) (re_lf 24 (some (.dup))))) (re_br 28 (re_lf 25 (some (.getfield 126))) (re_br 29 (re_lf 28 (some (.lconst 1))) (re_lf 29 (some (.ladd)))))) (re_br 35 (re_br 33 (re_lf 30 (some (.putfield 126))) (re_br 34 (re_lf 33 (some (.aload_n 0))) (re_lf 34 (some (.lconst 0))))) (re_br 36 (re_lf 35 (some (.aload_n 3))) (re_br 39 (re_lf 36 (some (.invokevirtual 90))) (re_lf 39 (some (.ireturn))))))))
def rI463 : Nat → Option Instr := (re_br 4 (re_br 1 (re_lf 0 (some (.aload_n 0))) (re_lf 1 (some (.getfield 27)))) (re_br 5 (re_lf 4 (some (.iconst 0))) (re_br 6 (re_lf 5 (some (.laload))) (re_lf 6 (some (.lreturn))))))
def rI464 : Nat → Option Instr := (re_br 4 (re_br 1 (re_lf 0 (some (.aload_n 0))) (re_lf 1 (some (.getfield 31)))) (re_br 5 (re_lf 4 (some (.iconst 0))) (re_br 6 (re_lf 5 (some (.aaload))) (re_lf 6 (some (.areturn))))))
def rI512 : Nat → Option Instr := (re_br 15 (re_br 6 (re_br 4 (re_br 1 (re_lf 0 (some (.aload_n 0))) (re_lf 1 (some (.invokespecial 3)))) (re_br 5 (re_lf 4 (some (.aload_n 0))) (re_lf 5 (some (.aload_n 1))))) (re_br 10 (re_br 9 (re_lf 6 (some (.putfield 9))) (re_lf 9 (some (.aload_n 0)))) (re_br 11 (re_lf 10 (some (.aload_n 2))) (re_br 14 (re_lf 11 (some (.putfield 15))) (re_lf 14 (some (.aload_n 0))))))) (re_br 22 (re_br 19 (re_br 16 (re_lf 15 (some (.aload_n 3))) (re_lf 16 (some (.putfield 19)))) (re_br 20 (re_lf 19 (some (.aload_n 0))) (re_lf 20 (some (.aload 4))))) (re_br 26 (re_br 25 (re_lf 22 (some (.putfield 23))) (re_lf 25 (some (.aload_n 0)))) (re_br 28 (re_lf 26 (some (.iload 5))) (re_br 31 (re_lf 28 (some (.putfield 27))) (re_lf 31 (some (.return_))))))))
def rI513 : Nat → Option Instr := (re_br 65 (re_br 29 (re_br 12 (re_br 8 (re_br 2 (re_br 1 (re_lf 0 (some (.iload_n 1))) (re_lf 1 (some (.aload_n 0)))) (re_br 5 (re_lf 2 (some (.getfield 9))) (re_lf 5 (some (.invokevirtual 40))))) (re_br 10 (re_br 9 (re_lf 8 (some (.iand))) (re_lf 9 (some (.istore_n 2)))) (re_br 11 (re_lf 10 (some (.iconst 0))) (re_lf 11 (some (.istore_n 3)))))) (re_br 19 (re_br 15 (re_br 13 (re_lf 12 (some (.iconst 0))) (re_lf 13 (some (.istore 4)))) (re_br 17 (re_lf 15 (some (.iload 4))) (re_lf 17 (some (.bipush 12))))) (re_br 23 (re_br 22 (re_lf 19 (some (.if_icmp .ge 108))) (re_lf 22 (some (.iload_n 2)))) (re_br 26 (re_lf 23 (some (.ifCond .eq 104))) (re_br 27 (re_lf 26 (some (.iconst 0))) (re_lf 27 (some (.istore 5)))))))) (re_br 49 (re_br 37 (re_br 33 (re_br 31 (re_lf 29 (some (.iload 5))) (re_lf 31 (some (.bipush 12)))) (re_br 36 (re_lf 33 (some (.if_icmp .ge 88))) (re_lf 36 (some (.aload_n 0))))) (re_br 43 (re_br 40 (re_lf 37 (some (.getfield 15))) (re_lf 40 (some (.getfield 46)))) (re_br 45 (re_lf 43 (some (.iload 5))) (re_br 46 (re_lf 45 (some (.iaload))) (re_lf 46 (some (.ifCond .ne 22))))))) (re_br 58 (re_br 53 (re_br 50 (re_lf 49 (some (.aload_n 0))) (re_lf 50 (some (.getfield 15)))) (re_br 56 (re_lf 53 (some (.getfield 52))) (re_lf 56 (some (.iload 5))))) (re_br 60 (re_br 59 (re_lf 58 (some (.iaload))) (re_lf 59 (some (.iload_n 2)))) (re_br 61 (re_lf 60 (some (.iand))) (re_br 64 (re_lf 61 (some (.ifCond .eq 7))) (re_lf 64 (some (.iconst 1))))))))) (re_br 95 (re_br 80 (re_br 72 (re_br 69 (re_br 68 (re_lf 65 (some (.goto 4))) (re_lf 68 (some (.iconst 0)))) (re_br 71 (re_lf 69 (some (.istore 6))) (re_lf 71 (some (.iload_n 2))))) (re_br 75 (re_br 74 (re_lf 72 (some (.iload 5))) (re_lf 74 (some (.ishr)))) (re_br 76 (re_lf 75 (some (.iconst 1))) (re_br 77 (re_lf 76 (some (.iand))) (re_lf 77 (some (.ifCond .eq 38))))))) (re_br 89 (re_br 85 (re_br 82 (re_lf 80 (some (.iload 6))) (re_lf 82 (some (.ifCond .eq 6)))) (re_br 88 (re_lf 85 (some (.goto 30))) (re_lf 88 (some (.iload_n 2))))) (re_br 92 (re_br 90 (re_lf 89 (some (.iconst 1))) (re_lf 90 (some (.iload 5)))) (re_br 93 (re_lf 92 (some (.ishl))) (re_br 94 (re_lf 93 (some (.iconst (-1)))) (re_lf 94 (some (.ixor)))))))) (re_br 110 (re_br 100 (re_br 97 (re_br 96 (re_lf 95 (some (.iand))) (re_lf 96 (some (.istore_n 2)))) (re_br 98 (re_lf 97 (some (.aload_n 0))) (re_lf 98 (some (.iload 5))))) (re_br 106 (re_br 103 (re_lf 100 (some (.invokevirtual 55))) (re_lf 103 (some (.ifCond .eq 12)))) (re_br 107 (re_lf 106 (some (.iload_n 3))) (re_br 108 (re_lf 107 (some (.aload_n 0))) (re_lf 108 (some (.iload 5))))))) (re_br 118 (re_br 114 (re_br 113 (re_lf 110 (some (.invokevirtual 59))) (re_lf 113 (some (.iadd)))) (re_br 115 (re_lf 114 (some (.istore_n 3))) (re_lf 115 (some (.iinc 5 1))))) (re_br 124 (re_br 121 (re_lf 118 (some (.goto (-89)))) (re_lf 121 (some (.iinc 4 1)))) (re_br 127 (re_lf 124 (some (.goto (-109)))) (re_br 128 (re_lf 127 (some (.iload_n 3))) (re_lf 128 (some (.ireturn))))))))))
def rI514 : Nat → Option Instr := (re_br 77 (re_br 39 (re_br 18 (re_br 7 (re_br 2 (re_br 1 (re_lf 0 (some (.aload_n 0))) (re_lf 1 (some (.iload_n 1)))) (re_br 5 (re_lf 2 (some (.invokevirtual 31))) (re_br 6 (re_lf 5 (some (.astore_n 2))) (re_lf 6 (some (.aload_n 0)))))) (re_br 13 (re_br 10 (re_lf 7 (some (.getfield 15))) (re_lf 10 (some (.getfield 46)))) (re_br 14 (re_lf 13 (some (.iload_n 1))) (re_br 15 (re_lf 14 (some (.iaload))) (re_lf 15 (some (.ifCond .eq 25))))))) (re_br 29 (re_br 22 (re_br 19 (re_lf 18 (some (.aload_n 2))) (re_lf 19 (some (.getfield 63)))) (re_br 23 (re_lf 22 (some (.aload_n 0))) (re_br 26 (re_lf 23 (some (.getfield 15))) (re_lf 26 (some (.getfield 46)))))) (re_br 34 (re_br 30 (re_lf 29 (some (.iload_n 1))) (re_br 31 (re_lf 30 (some (.iaload))) (re_lf 31 (some (.if_icmp .eq 7))))) (re_br 35 (re_lf 34 (some (.iconst 1))) (re_br 38 (re_lf 35 (some (.goto 4))) (re_lf 38 (some (.iconst 0)))))))) (re_br 60 (re_br 48 (re_br 41 (re_br 40 (re_lf 39 (some (.ireturn))) (re_lf 40 (some (.aload_n 2)))) (re_br 44 (re_lf 41 (some (.getfield 63))) (re_br 45 (re_lf 44 (some (.iconst (-1)))) (re_lf 45 (some (.if_icmp .eq 19)))))) (re_br 53 (re_br 49 (re_lf 48 (some (.aload_n 2))) (re_br 52 (re_lf 49 (some (.getfield 63))) (re_lf 52 (some (.iconst 1))))) (re_br 56 (re_lf 53 (some (.if_icmp .lt 13))) (re_br 57 (re_lf 56 (some (.aload_n 2))) (re_lf 57 (some (.getfield 63))))))) (re_br 67 (re_br 64 (re_br 61 (re_lf 60 (some (.iconst 3))) (re_lf 61 (some (.if_icmp .gt 5)))) (re_br 65 (re_lf 64 (some (.iconst 1))) (re_br 66 (re_lf 65 (some (.ireturn))) (re_lf 66 (some (.aload_n 2)))))) (re_br 74 (re_br 68 (re_lf 67 (some (.aload_n 0))) (re_br 71 (re_lf 68 (some (.getfield 9))) (re_lf 71 (some (.getfield 66))))) (re_br 75 (re_lf 74 (some (.iload_n 1))) (re_br 76 (re_lf 75 (some (.aaload))) (re_lf 76 (some (.aload_n 0))))))))) (re_br 118 (re_br 99 (re_br 90 (re_br 83 (re_br 80 (re_lf 77 (some (.getfield 19))) (re_lf 80 (some (.getfield 70)))) (re_br 86 (re_lf 83 (some (.invokevirtual 76))) (re_br 89 (re_lf 86 (some (.ifCond .ne 5))) (re_lf 89 (some (.iconst 1)))))) (re_br 93 (re_br 91 (re_lf 90 (some (.ireturn))) (re_br 92 (re_lf 91 (some (.iconst 0))) (re_lf 92 (some (.istore_n 3))))) (re_br 94 (re_lf 93 (some (.iload_n 3))) (re_br 96 (re_lf 94 (some (.bipush 16))) (re_lf 96 (some (.if_icmp .ge 59))))))) (re_br 108 (re_br 103 (re_br 100 (re_lf 99 (some (.aload_n 0))) (re_lf 100 (some (.getfield 15)))) (re_br 106 (re_lf 103 (some (.getfield 80))) (re_br 107 (re_lf 106 (some (.iload_n 1))) (re_lf 107 (some (.iaload)))))) (re_br 111 (re_br 109 (re_lf 108 (some (.iload_n 3))) (re_br 110 (re_lf 109 (some (.ishr))) (re_lf 110 (some (.iconst 1))))) (re_br 112 (re_lf 111 (some (.iand))) (re_br 115 (re_lf 112 (some (.ifCond .ne 6))) (re_lf 115 (some (.goto 34)))))))) (re_br 135 (re_br 126 (re_br 120 (re_br 119 (re_lf 118 (some (.aload_n 0))) (re_lf 119 (some (.iload_n 3)))) (re_br 123 (re_lf 120 (some (.invokevirtual 83))) (re_br 125 (re_lf 123 (some (.astore 4))) (re_lf 125 (some (.aload_n 2)))))) (re_br 130 (re_br 127 (re_lf 126 (some (.iload_n 3))) (re_br 128 (re_lf 127 (some (.aload_n 0))) (re_lf 128 (some (.aload 4))))) (re_br 131 (re_lf 130 (some (.iload_n 3))) (re_br 134 (re_lf 131 (some (.invokevirtual 86))) (re_lf 134 (some (.aload_n 0))))))) (re_br 147 (re_br 138 (re_br 137 (re_lf 135 (some (.aload 4))) (re_lf 137 (some (.iload_n 3)))) (re_br 141 (re_lf 138 (some (.invokevirtual 90))) (re_br 144 (re_lf 141 (some (.invokevirtual 94))) (re_lf 144 (some (.ifCond .ne 5)))))) (re_br 152 (re_br 148 (re_lf 147 (some (.iconst 1))) (re_br 149 (re_lf 148 (some (.ireturn))) (re_lf 149 (some (.iinc 3 1))))) (re_br 155 (re_lf 152 (some (.goto (-59)))) (re_br 156 (re_lf 155 (some (.iconst 0))) (re_lf 156 (some (.ireturn))))))))))
def rI515 : Nat → Option Instr := (re_br 8 (re_br 4 (re_br 1 (re_lf 0 (some (.aload_n 0))) (re_lf 1 (some (.getfield 23)))) (re_br 5 (re_lf 4 (some (.aload_n 0))) (re_lf 5 (some (.getfield 27))))) (re_br 10 (re_br 9 (re_lf 8 (some (.iload_n 1))) (re_lf 9 (some (.iadd)))) (re_br 11 (re_lf 10 (some (.aaload))) (re_lf 11 (some (.areturn))))))
def rI516 : Nat → Option Instr := (re_br 23 (re_br 10 (re_br 7 (re_br 1 (re_lf 0 (some (.aload_n 0))) (re_br 4 (re_lf 1 (some (.getfield 15))) (re_lf 4 (some (.getfield 158))))) (re_br 8 (re_lf 7 (some (.iload_n 1))) (re_br 9 (re_lf 8 (some (.iaload))) (re_lf 9 (some (.istore_n 2)))))) (re_br 15 (re_br 11 (re_lf 10 (some (.iload_n 2))) (re_br 12 (re_lf 11 (some (.iconst (-1)))) (re_lf 12 (some (.if_icmp .eq 26))))) (re_br 19 (re_br 16 (re_lf 15 (some (.aload_n 0))) (re_lf 16 (some (.getfield 15)))) (re_br 22 (re_lf 19 (some (.getfield 46))) (re_lf 22 (some (.iload_n 2))))))) (re_br 35 (re_br 28 (re_br 24 (re_lf 23 (some (.iaload))) (re_br 27 (re_lf 24 (some (.ifCond .ne 14))) (re_lf 27 (some (.aload_n 0))))) (re_br 29 (re_lf 28 (some (.iload_n 2))) (re_br 32 (re_lf 29 (some (.invokevirtual 31))) (re_lf 32 (some (.getfield 63)))))) (re_br 40 (re_br 38 (re_lf 35 (some (.ifCond .eq 5))) (re_br 39 (re_lf 38 (some (.aconst_null))) (re_lf 39 (some (.areturn))))) (re_br 42 (re_br 41 (re_lf 40 (some (.aload_n 0))) (re_lf 41 (some (.iload_n 2)))) (re_br 45 (re_lf 42 (some (.invokevirtual 31))) (re_lf 45 (some (.areturn))))))))
def rI517 : Nat → Option Instr := (re_br 8 (re_br 4 (re_br 1 (re_lf 0 (some (.aload_n 1))) (re_lf 1 (some (.ifnonnull 7)))) (re_br 5 (re_lf 4 (some (.iconst 0))) (re_lf 5 (some (.goto 8))))) (re_br 10 (re_br 9 (re_lf 8 (some (.aload_n 1))) (re_lf 9 (some (.iload_n 2)))) (re_br 13 (re_lf 10 (some (.invokevirtual 147))) (re_lf 13 (some (.ireturn))))))
def rI518 : Nat → Option Instr := (re_br 8 (re_br 4 (re_br 1 (re_lf 0 (some (.aload_n 1))) (re_lf 1 (some (.ifnonnull 7)))) (re_br 5 (re_lf 4 (some (.lconst 0))) (re_lf 5 (some (.goto 8))))) (re_br 10 (re_br 9 (re_lf 8 (some (.aload_n 1))) (re_lf 9 (some (.iload_n 2)))) (re_br 13 (re_lf 10 (some (.invokevirtual 150))) (re_lf 13 (some (.lreturn))))))
def rI519 : Nat → Option Instr := (re_br 80 (re_br 41 (re_br 19 (re_br 7 (re_br 2 (re_br 1 (re_lf 0 (some (.aload_n 0))) (re_lf 1 (some (.iload_n 1)))) (re_br 5 (re_lf 2 (some (.invokevirtual 31))) (re_br 6 (re_lf 5 (some (.astore_n 2))) (re_lf 6 (some (.aload_n 0)))))) (re_br 14 (re_br 10 (re_lf 7 (some (.getfield 15))) (re_br 13 (re_lf 10 (some (.getfield 46))) (re_lf 13 (some (.iload_n 1))))) (re_br 15 (re_lf 14 (some (.iaload))) (re_br 18 (re_lf 15 (some (.ifCond .eq 18))) (re_lf 18 (some (.aload_n 2))))))) (re_br 31 (re_br 26 (re_br 20 (re_lf 19 (some (.aload_n 0))) (re_br 23 (re_lf 20 (some (.getfield 15))) (re_lf 23 (some (.getfield 46))))) (re_br 27 (re_lf 26 (some (.iload_n 1))) (re_br 28 (re_lf 27 (some (.iaload))) (re_lf 28 (some (.invokevirtual 98)))))) (re_br 34 (re_br 32 (re_lf 31 (some (.iconst 0))) (re_br 33 (re_lf 32 (some (.ireturn))) (re_lf 33 (some (.aload_n 0))))) (re_br 37 (re_lf 34 (some (.getfield 9))) (re_br 40 (re_lf 37 (some (.getfield 66))) (re_lf 40 (some (.iload_n 1)))))))) (re_br 60 (re_br 46 (re_br 43 (re_br 42 (re_lf 41 (some (.aaload))) (re_lf 42 (some (.astore_n 3)))) (re_br 44 (re_lf 43 (some (.aload_n 2))) (re_br 45 (re_lf 44 (some (.aload_n 3))) (re_lf 45 (some (.aload_n 0)))))) (re_br 55 (re_br 49 (re_lf 46 (some (.getfield 19))) (re_br 52 (re_lf 49 (some (.getfield 70))) (re_lf 52 (some (.invokevirtual 102))))) (re_br 56 (re_lf 55 (some (.aload_n 0))) (re_br 59 (re_lf 56 (some (.getfield 19))) (re_lf 59 (some (.iload_n 1))))))) (re_br 72 (re_br 65 (re_br 63 (re_lf 60 (some (.invokevirtual 106))) (re_br 64 (re_lf 63 (some (.aload_n 0))) (re_lf 64 (some (.iload_n 1))))) (re_br 66 (re_lf 65 (some (.aload_n 2))) (re_br 69 (re_lf 66 (some (.invokevirtual 108))) (re_lf 69 (some (.ifCond .ne 10)))))) (re_br 77 (re_br 73 (re_lf 72 (some (.aload_n 2))) (re_br 74 (re_lf 73 (some (.iconst 5))) (re_lf 74 (some (.invokevirtual 98))))) (re_br 78 (re_lf 77 (some (.iconst 1))) (re_br 79 (re_lf 78 (some (.ireturn))) (re_lf 79 (some (.iconst 0))))))))) (re_br 123 (re_br 102 (re_br 91 (re_br 84 (re_br 82 (re_lf 80 (some (.istore 4))) (re_lf 82 (some (.iload 4)))) (re_br 85 (re_lf 84 (some (.aload_n 3))) (re_br 88 (re_lf 85 (some (.getfield 112))) (re_lf 88 (some (.if_icmp .ge 86)))))) (re_br 96 (re_br 92 (re_lf 91 (some (.aload_n 0))) (re_br 95 (re_lf 92 (some (.getfield 19))) (re_lf 95 (some (.aload_n 3))))) (re_br 99 (re_lf 96 (some (.getfield 117))) (re_br 101 (re_lf 99 (some (.iload 4))) (re_lf 101 (some (.aaload))))))) (re_br 114 (re_br 109 (re_br 105 (re_lf 102 (some (.invokevirtual 121))) (re_br 108 (re_lf 105 (some (.ifCond .ne 10))) (re_lf 108 (some (.aload_n 2))))) (re_br 110 (re_lf 109 (some (.iconst 4))) (re_br 113 (re_lf 110 (some (.invokevirtual 98))) (re_lf 113 (some (.iconst 1)))))) (re_br 117 (re_br 115 (re_lf 114 (some (.ireturn))) (re_br 116 (re_lf 115 (some (.aload_n 2))) (re_lf 116 (some (.aload_n 3))))) (re_br 120 (re_lf 117 (some (.getfield 125))) (re_br 122 (re_lf 120 (some (.iload 4))) (re_lf 122 (some (.iaload)))))))) (re_br 150 (re_br 137 (re_br 130 (re_br 124 (re_lf 123 (some (.aload_n 0))) (re_br 127 (re_lf 124 (some (.getfield 19))) (re_lf 127 (some (.invokevirtual 128))))) (re_br 131 (re_lf 130 (some (.aload_n 0))) (re_br 134 (re_lf 131 (some (.getfield 19))) (re_lf 134 (some (.invokevirtual 132)))))) (re_br 144 (re_br 140 (re_lf 137 (some (.invokevirtual 136))) (re_br 141 (re_lf 140 (some (.aload_n 0))) (re_lf 141 (some (.getfield 19))))) (re_br 145 (re_lf 144 (some (.aload_n 3))) (re_br 148 (re_lf 145 (some (.getfield 125))) (re_lf 148 (some (.iload 4))))))) (re_br 162 (re_br 155 (re_br 151 (re_lf 150 (some (.iaload))) (re_br 152 (re_lf 151 (some (.aload_n 0))) (re_lf 152 (some (.getfield 19))))) (re_br 158 (re_lf 155 (some (.invokevirtual 128))) (re_br 159 (re_lf 158 (some (.aload_n 0))) (re_lf 159 (some (.getfield 19)))))) (re_br 171 (re_br 165 (re_lf 162 (some (.invokevirtual 132))) (re_br 168 (re_lf 165 (some (.invokevirtual 140))) (re_lf 168 (some (.iinc 4 1))))) (re_br 174 (re_lf 171 (some (.goto (-89)))) (re_br 175 (re_lf 174 (some (.iconst 1))) (re_lf 175 (some (.ireturn))))))))))
def rI520 : Nat → Option Instr := (re_br 51 (re_br 24 (re_br 12 (re_br 3 (re_br 1 (re_lf 0 (some (.iconst 1))) (re_br 2 (re_lf 1 (some (.istore_n 3))) (re_lf 2 (some (.iconst 0))))) (re_br 7 (re_br 5 (re_lf 3 (some (.istore 4))) (re_lf 5 (some (.iload 4)))) (re_br 9 (re_lf 7 (some (.bipush 16))) (re_lf 9 (some (.if_icmp .ge 102)))))) (re_br 19 (re_br 13 (re_lf 12 (some (.aload_n 0))) (re_br 16 (re_lf 13 (some (.getfield 15))) (re_lf 16 (some (.getfield 80))))) (re_br 21 (re_br 20 (re_lf 19 (some (.iload_n 1))) (re_lf 20 (some (.iaload)))) (re_br 23 (re_lf 21 (some (.iload 4))) (re_lf 23 (some (.ishr))))))) (re_br 38 (re_br 29 (re_br 25 (re_lf 24 (some (.iconst 1))) (re_br 26 (re_lf 25 (some (.iand))) (re_lf 26 (some (.ifCond .ne 6))))) (re_br 33 (re_br 32 (re_lf 29 (some (.goto 76))) (re_lf 32 (some (.aload_n 0)))) (re_br 35 (re_lf 33 (some (.iload 4))) (re_lf 35 (some (.invokevirtual 83)))))) (re_br 43 (re_br 40 (re_lf 38 (some (.astore 5))) (re_br 41 (re_lf 40 (some (.aload_n 2))) (re_lf 41 (some (.iload 4))))) (re_br 46 (re_br 44 (re_lf 43 (some (.aload_n 0))) (re_lf 44 (some (.aload 5)))) (re_br 48 (re_lf 46 (some (.iload 4))) (re_lf 48 (some (.invokevirtual 86)))))))) (re_br 82 (re_br 67 (re_br 56 (re_br 52 (re_lf 51 (some (.aload_n 0))) (re_br 54 (re_lf 52 (some (.aload 5))) (re_lf 54 (some (.iload 4))))) (re_br 62 (re_br 59 (re_lf 56 (some (.invokevirtual 90))) (re_lf 59 (some (.invokevirtual 143)))) (re_br 64 (re_lf 62 (some (.aload 5))) (re_lf 64 (some (.ifnull 13)))))) (re_br 74 (re_br 69 (re_lf 67 (some (.aload 5))) (re_br 71 (re_lf 69 (some (.iload 4))) (re_lf 71 (some (.invokevirtual 147))))) (re_br 78 (re_br 77 (re_lf 74 (some (.ifCond .ne 8))) (re_lf 77 (some (.iconst 0)))) (re_br 79 (re_lf 78 (some (.istore_n 3))) (re_lf 79 (some (.goto 26))))))) (re_br 97 (re_br 88 (re_br 83 (re_lf 82 (some (.aload_n 0))) (re_br 86 (re_lf 83 (some (.getfield 19))) (re_lf 86 (some (.iload 4))))) (re_br 92 (re_br 90 (re_lf 88 (some (.aload 5))) (re_lf 90 (some (.iload 4)))) (re_br 95 (re_lf 92 (some (.invokevirtual 150))) (re_lf 95 (some (.aload 5)))))) (re_br 105 (re_br 99 (re_lf 97 (some (.iload 4))) (re_br 102 (re_lf 99 (some (.invokevirtual 154))) (re_lf 102 (some (.invokevirtual 140))))) (re_br 111 (re_br 108 (re_lf 105 (some (.iinc 4 1))) (re_lf 108 (some (.goto (-103))))) (re_br 112 (re_lf 111 (some (.iload_n 3))) (re_lf 112 (some (.ireturn)))))))))
def rI521 : Nat → Option Instr := (re_br 2 (re_br 1 (re_lf 0 (some (.aload_n 0))) (re_lf 1 (some (.iload_n 1)))) (re_br 5 (re_lf 2 (some (.invokevirtual 31))) (re_br 8 (re_lf 5 (some (.invokevirtual 35))) (re_lf 8 (some (.return_))))))
def rI522 : Nat → Option Instr := (re_br 50 (re_br 23 (re_br 12 (re_br 8 (re_br 4 (re_br 1 (re_lf 0 (some (.aload_n 0))) (re_lf 1 (some (.getfield 9)))) (re_br 7 (re_lf 4 (some (.invokevirtual 40))) (re_lf 7 (some (.istore_n 1))))) (re_br 10 (re_br 9 (re_lf 8 (some (.iconst 0))) (re_lf 9 (some (.istore_n 2)))) (re_br 11 (re_lf 10 (some (.iconst 0))) (re_lf 11 (some (.istore_n 3)))))) (re_br 19 (re_br 15 (re_br 13 (re_lf 12 (some (.iload_n 3))) (re_lf 13 (some (.bipush 12)))) (re_br 18 (re_lf 15 (some (.if_icmp .ge 32))) (re_lf 18 (some (.iload_n 1))))) (re_br 21 (re_br 20 (re_lf 19 (some (.iload_n 3))) (re_lf 20 (some (.ishr)))) (re_br 22 (re_lf 21 (some (.iconst 1))) (re_lf 22 (some (.iand))))))) (re_br 37 (re_br 29 (re_br 27 (re_br 24 (re_lf 23 (some (.iconst 1))) (re_lf 24 (some (.if_icmp .ne 17)))) (re_br 28 (re_lf 27 (some (.aload_n 0))) (re_lf 28 (some (.iload_n 3))))) (re_br 35 (re_br 32 (re_lf 29 (some (.invokevirtual 55))) (re_lf 32 (some (.ifCond .eq 9)))) (re_br 36 (re_lf 35 (some (.iload_n 2))) (re_lf 36 (some (.iconst 1)))))) (re_br 41 (re_br 39 (re_br 38 (re_lf 37 (some (.iload_n 3))) (re_lf 38 (some (.ishl)))) (re_br 40 (re_lf 39 (some (.ior))) (re_lf 40 (some (.istore_n 2))))) (re_br 47 (re_br 44 (re_lf 41 (some (.iinc 3 1))) (re_lf 44 (some (.goto (-32))))) (re_br 48 (re_lf 47 (some (.iconst 0))) (re_br 49 (re_lf 48 (some (.istore_n 3))) (re_lf 49 (some (.iload_n 3))))))))) (re_br 85 (re_br 66 (re_br 58 (re_br 55 (re_br 52 (re_lf 50 (some (.bipush 12))) (re_lf 52 (some (.if_icmp .ge 60)))) (re_br 56 (re_lf 55 (some (.iconst 0))) (re_lf 56 (some (.istore 4))))) (re_br 62 (re_br 60 (re_lf 58 (some (.iload 4))) (re_lf 60 (some (.bipush 12)))) (re_br 65 (re_lf 62 (some (.if_icmp .ge 44))) (re_lf 65 (some (.aload_n 0)))))) (re_br 75 (re_br 72 (re_br 69 (re_lf 66 (some (.getfield 15))) (re_lf 69 (some (.getfield 46)))) (re_br 74 (re_lf 72 (some (.iload 4))) (re_lf 74 (some (.iaload))))) (re_br 79 (re_br 78 (re_lf 75 (some (.ifCond .ne 25))) (re_lf 78 (some (.aload_n 0)))) (re_br 82 (re_lf 79 (some (.getfield 15))) (re_lf 82 (some (.getfield 52))))))) (re_br 97 (re_br 90 (re_br 88 (re_br 87 (re_lf 85 (some (.iload 4))) (re_lf 87 (some (.iaload)))) (re_br 89 (re_lf 88 (some (.iload_n 2))) (re_lf 89 (some (.iand))))) (re_br 94 (re_br 93 (re_lf 90 (some (.ifCond .eq 10))) (re_lf 93 (some (.iload_n 2)))) (re_br 95 (re_lf 94 (some (.iconst 1))) (re_lf 95 (some (.iload 4)))))) (re_br 103 (re_br 99 (re_br 98 (re_lf 97 (some (.ishl))) (re_lf 98 (some (.ior)))) (re_br 100 (re_lf 99 (some (.istore_n 2))) (re_lf 100 (some (.iinc 4 1))))) (re_br 109 (re_br 106 (re_lf 103 (some (.goto (-45)))) (re_lf 106 (some (.iinc 3 1)))) (re_br 112 (re_lf 109 (some (.goto (-60)))) (re_br 113 (re_lf 112 (some (.iload_n 2))) (re_lf 113 (some (.ireturn))))))))))
def rI523 : Nat → Option Instr := (re_br 9 (re_br 3 (re_br 1 (re_lf 0 (some (.iconst 0))) (re_br 2 (re_lf 1 (some (.istore_n 1))) (re_lf 2 (some (.iload_n 1))))) (re_br 5 (re_lf 3 (some (.bipush 12))) (re_br 8 (re_lf 5 (some (.if_icmp .ge 17))) (re_lf 8 (some (.aload_n 0)))))) (re_br 16 (re_br 10 (re_lf 9 (some (.iload_n 1))) (re_br 13 (re_lf 10 (some (.invokevirtual 31))) (re_lf 13 (some (.invokevirtual 35))))) (re_br 19 (re_lf 16 (some (.iinc 1 1))) (re_br 22 (re_lf 19 (some (.goto (-17)))) (re_lf 22 (some (.return_)))))))
def rI576 : Nat → Option Instr := (re_br 19 (re_br 8 (re_br 3 (re_br 1 (re_lf 0 (some (.iload_n 1))) (re_br 2 (re_lf 1 (some (.aload_n 0))) (re_lf 2 (some (.arraylength))))) (re_br 6 (re_lf 3 (some (.if_icmp .ge 9))) (re_br 7 (re_lf 6 (some (.aload_n 0))) (re_lf 7 (some (.iload_n 1)))))) (re_br 14 (re_br 9 (re_lf 8 (some (.iaload))) (re_br 12 (re_lf 9 (some (.goto 10))) (re_lf 12 (some (.ldc 7))))) (re_br 17 (re_br 15 (re_lf 14 (some (.iload_n 1))) (re_lf 15 (some (.bipush 73)))) (re_br 18 (re_lf 17 (some (.iadd))) (re_lf 18 (some (.imul))))))) (re_br 26 (re_br 22 (re_br 20 (re_lf 19 (some (.istore_n 2))) (re_br 21 (re_lf 20 (some (.iload_n 2))) (re_lf 21 (some (.iload_n 2))))) (re_br 24 (re_lf 22 (some (.bipush 16))) (re_br 25 (re_lf 24 (some (.iushr))) (re_lf 25 (some (.ixor)))))) (re_br 32 (re_br 28 (re_lf 26 (some (.ldc 8))) (re_br 29 (re_lf 28 (some (.imul))) (re_lf 29 (some (.sipush 221))))) (re_br 34 (re_br 33 (re_lf 32 (some (.iload_n 1))) (re_lf 33 (some (.imul)))) (re_br 35 (re_lf 34 (some (.iadd))) (re_lf 35 (some (.ireturn))))))))
def rI577 : Nat → Option Instr := (re_br 3 (re_br 1 (re_lf 0 (some (.iload_n 0))) (re_br 2 (re_lf 1 (some (.iconst 1))) (re_lf 2 (some (.iushr))))) (re_br 4 (re_lf 3 (some (.iload_n 1))) (re_br 5 (re_lf 4 (some (.irem))) (re_lf 5 (some (.ireturn))))))
def rI578 : Nat → Option Instr := (re_br 86 (re_br 43 (re_br 19 (re_br 9 (re_br 4 (re_br 3 (re_lf 0 (some (.ldc2_w 127))) (re_lf 3 (some (.lstore_n 2)))) (re_br 5 (re_lf 4 (some (.iconst 0))) (re_br 7 (re_lf 5 (some (.istore 4))) (re_lf 7 (some (.iload 4)))))) (re_br 14 (re_br 10 (re_lf 9 (some (.iload_n 1))) (re_br 13 (re_lf 10 (some (.if_icmp .ge 157))) (re_lf 13 (some (.aload_n 0))))) (re_br 16 (re_lf 14 (some (.bipush 21))) (re_br 18 (re_lf 16 (some (.iload 4))) (re_lf 18 (some (.iconst 0))))))) (re_br 33 (re_br 26 (re_br 22 (re_lf 19 (some (.invokestatic 129))) (re_br 25 (re_lf 22 (some (.ldc2_w 17))) (re_lf 25 (some (.lcmp))))) (re_br 29 (re_lf 26 (some (.ifCond .ne 16))) (re_br 30 (re_lf 29 (some (.lload_n 2))) (re_lf 30 (some (.ldc2_w 131)))))) (re_br 38 (re_br 34 (re_lf 33 (some (.lmul))) (re_br 37 (re_lf 34 (some (.ldc2_w 133))) (re_lf 37 (some (.ladd))))) (re_br 39 (re_lf 38 (some (.lstore_n 2))) (re_br 42 (re_lf 39 (some (.goto 122))) (re_lf 42 (some (.lload_n 2)))))))) (re_br 65 (re_br 54 (re_br 48 (re_br 46 (re_lf 43 (some (.ldc2_w 131))) (re_br 47 (re_lf 46 (some (.lmul))) (re_lf 47 (some (.aload_n 0))))) (re_br 50 (re_lf 48 (some (.iload 4))) (re_br 53 (re_lf 50 (some (.invokevirtual 98))) (re_lf 53 (some (.i2l)))))) (re_br 59 (re_br 55 (re_lf 54 (some (.ladd))) (re_br 58 (re_lf 55 (some (.ldc2_w 131))) (re_lf 58 (some (.lmul))))) (re_br 60 (re_lf 59 (some (.aload_n 0))) (re_br 62 (re_lf 60 (some (.iload 4))) (re_lf 62 (some (.invokevirtual 101))))))) (re_br 75 (re_br 72 (re_br 68 (re_lf 65 (some (.ifCond .eq 7))) (re_br 69 (re_lf 68 (some (.iconst 1))) (re_lf 69 (some (.goto 4))))) (re_br 73 (re_lf 72 (some (.iconst 0))) (re_br 74 (re_lf 73 (some (.i2l))) (re_lf 74 (some (.ladd)))))) (re_br 80 (re_br 78 (re_lf 75 (some (.ldc2_w 135))) (re_br 79 (re_lf 78 (some (.lmul))) (re_lf 79 (some (.aload_n 0))))) (re_br 82 (re_lf 80 (some (.iload 4))) (re_br 85 (re_lf 82 (some (.invokevirtual 124))) (re_lf 85 (some (.i2l))))))))) (re_br 124 (re_br 104 (re_br 93 (re_br 88 (re_br 87 (re_lf 86 (some (.ladd))) (re_lf 87 (some (.lstore_n 2)))) (re_br 89 (re_lf 88 (some (.lload_n 2))) (re_br 92 (re_lf 89 (some (.ldc2_w 137))) (re_lf 92 (some (.lmul)))))) (re_br 99 (re_br 94 (re_lf 93 (some (.aload_n 0))) (re_br 96 (re_lf 94 (some (.iload 4))) (re_lf 96 (some (.invokevirtual 118))))) (re_br 100 (re_lf 99 (some (.i2l))) (re_br 101 (re_lf 100 (some (.ladd))) (re_lf 101 (some (.ldc2_w 139))))))) (re_br 113 (re_br 108 (re_br 105 (re_lf 104 (some (.lmul))) (re_br 106 (re_lf 105 (some (.aload_n 0))) (re_lf 106 (some (.iload 4))))) (re_br 111 (re_lf 108 (some (.invokevirtual 121))) (re_br 112 (re_lf 111 (some (.i2l))) (re_lf 112 (some (.ladd)))))) (re_br 117 (re_br 114 (re_lf 113 (some (.lstore_n 2))) (re_br 115 (re_lf 114 (some (.iconst 0))) (re_lf 115 (some (.istore 5))))) (re_br 119 (re_lf 117 (some (.iload 5))) (re_br 121 (re_lf 119 (some (.bipush 6))) (re_lf 121 (some (.if_icmp .ge 40)))))))) (re_br 144 (re_br 134 (re_br 129 (re_br 125 (re_lf 124 (some (.lload_n 2))) (re_br 128 (re_lf 125 (some (.ldc2_w 141))) (re_lf 128 (some (.lmul))))) (re_br 130 (re_lf 129 (some (.aload_n 0))) (re_br 132 (re_lf 130 (some (.iload 4))) (re_lf 132 (some (.iload 5)))))) (re_br 139 (re_br 137 (re_lf 134 (some (.invokevirtual 105))) (re_br 138 (re_lf 137 (some (.i2l))) (re_lf 138 (some (.ladd))))) (re_br 142 (re_lf 139 (some (.ldc2_w 143))) (re_br 143 (re_lf 142 (some (.lmul))) (re_lf 143 (some (.aload_n 0))))))) (re_br 155 (re_br 150 (re_br 146 (re_lf 144 (some (.bipush 24))) (re_br 148 (re_lf 146 (some (.iload 4))) (re_lf 148 (some (.iload 5))))) (re_br 153 (re_lf 150 (some (.invokestatic 129))) (re_br 154 (re_lf 153 (some (.ladd))) (re_lf 154 (some (.lstore_n 2)))))) (re_br 164 (re_br 158 (re_lf 155 (some (.iinc 5 1))) (re_br 161 (re_lf 158 (some (.goto (-41)))) (re_lf 161 (some (.iinc 4 1))))) (re_br 167 (re_lf 164 (some (.goto (-157)))) (re_br 168 (re_lf 167 (some (.lload_n 2))) (re_lf 168 (some (.lreturn))))))))))
def rI579 : Nat → Option Instr := (re_br 10 (re_br 3 (re_br 1 (re_lf 0 (some (.aload_n 0))) (re_br 2 (re_lf 1 (some (.iload_n 1))) (re_lf 2 (some (.iload_n 2))))) (re_br 7 (re_br 4 (re_lf 3 (some (.iload_n 3))) (re_lf 4 (some (.invokestatic 9)))) (re_br 8 (re_lf 7 (some (.lreturn))) (re_lf 8 (some (.astore 4)))))) (re_br 19 (re_br 14 (re_br 13 (re_lf 10 (some (.ldc2_w 17))) (re_lf 13 (some (.lreturn)))) (re_br 16 (re_lf 14 (some (.astore 4))) (re_lf 16 (some (.ldc2_w 21))))) (re_br 22 (re_br 20 (re_lf 19 (some (.lreturn))) (re_lf 20 (some (.astore 4)))) (re_br 25 (re_lf 22 (some (.ldc2_w 25))) (re_lf 25 (some (.lreturn)))))))
def rI580 : Nat → Option Instr := (re_br 240 (re_br 186 (re_br 158 (re_br 142 (re_br 135 (re_br 132 (re_br 1 (re_lf 0 (some (.iload_n 1))) (re_lf 1 (some (.tableswitch 350 0 28 #[131, 139, 146, 153, 159, 166, 172, 179, 186, 192, 198, 206, 214, 221, 229, 237, 244, 251, 258, 264, 279, 286, 293, 307, 315, 322, 329, 336, 343])))) (re_br 133 (re_lf 132 (some (.aload_n 0))) (re_br 134 (re_lf 133 (some (.iload_n 2))) (re_lf 134 (some (.i2l)))))) (re_br 139 (re_br 138 (re_lf 135 (some (.invokevirtual 27))) (re_lf 138 (some (.i2l)))) (re_br 140 (re_lf 139 (some (.lreturn))) (re_br 141 (re_lf 140 (some (.aload_n 0))) (re_lf 141 (some (.iload_n 2))))))) (re_br 149 (re_br 146 (re_br 145 (re_lf 142 (some (.invokevirtual 33))) (re_lf 145 (some (.i2l)))) (re_br 147 (re_lf 146 (some (.lreturn))) (re_br 148 (re_lf 147 (some (.aload_n 0))) (re_lf 148 (some (.iload_n 2)))))) (re_br 153 (re_br 152 (re_lf 149 (some (.invokevirtual 37))) (re_lf 152 (some (.i2l)))) (re_br 154 (re_lf 153 (some (.lreturn))) (re_br 155 (re_lf 154 (some (.aload_n 0))) (re_lf 155 (some (.invokevirtual 40)))))))) (re_br 172 (re_br 165 (re_br 160 (re_br 159 (re_lf 158 (some (.i2l))) (re_lf 159 (some (.lreturn)))) (re_br 161 (re_lf 160 (some (.aload_n 0))) (re_br 162 (re_lf 161 (some (.iload_n 2))) (re_lf 162 (some (.invokevirtual 44)))))) (re_br 167 (re_br 166 (re_lf 165 (some (.i2l))) (re_lf 166 (some (.lreturn)))) (re_br 168 (re_lf 167 (some (.aload_n 0))) (re_br 171 (re_lf 168 (some (.invokevirtual 47))) (re_lf 171 (some (.i2l))))))) (re_br 179 (re_br 174 (re_br 173 (re_lf 172 (some (.lreturn))) (re_lf 173 (some (.aload_n 0)))) (re_br 175 (re_lf 174 (some (.iload_n 2))) (re_br 178 (re_lf 175 (some (.invokevirtual 50))) (re_lf 178 (some (.i2l)))))) (re_br 181 (re_br 180 (re_lf 179 (some (.lreturn))) (re_lf 180 (some (.aload_n 0)))) (re_br 182 (re_lf 181 (some (.iload_n 2))) (re_br 185 (re_lf 182 (some (.invokevirtual 53))) (re_lf 185 (some (.i2l))))))))) (re_br 214 (re_br 200 (re_br 193 (re_br 188 (re_br 187 (re_lf 186 (some (.lreturn))) (re_lf 187 (some (.aload_n 0)))) (re_br 191 (re_lf 188 (some (.invokevirtual 56))) (re_br 192 (re_lf 191 (some (.i2l))) (re_lf 192 (some (.lreturn)))))) (re_br 197 (re_br 194 (re_lf 193 (some (.aload_n 0))) (re_lf 194 (some (.invokevirtual 59)))) (re_br 198 (re_lf 197 (some (.i2l))) (re_br 199 (re_lf 198 (some (.lreturn))) (re_lf 199 (some (.aload_n 0))))))) (re_br 207 (re_br 202 (re_br 201 (re_lf 200 (some (.iload_n 2))) (re_lf 201 (some (.iload_n 3)))) (re_br 205 (re_lf 202 (some (.invokevirtual 62))) (re_br 206 (re_lf 205 (some (.i2l))) (re_lf 206 (some (.lreturn)))))) (re_br 209 (re_br 208 (re_lf 207 (some (.aload_n 0))) (re_lf 208 (some (.iload_n 2)))) (re_br 210 (re_lf 209 (some (.iload_n 3))) (re_br 213 (re_lf 210 (some (.invokevirtual 66))) (re_lf 213 (some (.i2l)))))))) (re_br 228 (re_br 221 (re_br 216 (re_br 215 (re_lf 214 (some (.lreturn))) (re_lf 215 (some (.aload_n 0)))) (re_br 217 (re_lf 216 (some (.iload_n 2))) (re_br 220 (re_lf 217 (some (.invokevirtual 69))) (re_lf 220 (some (.i2l)))))) (re_br 223 (re_br 222 (re_lf 221 (some (.lreturn))) (re_lf 222 (some (.aload_n 0)))) (re_br 224 (re_lf 223 (some (.iload_n 2))) (re_br 225 (re_lf 224 (some (.iload_n 3))) (re_lf 225 (some (.invokevirtual 72))))))) (re_br 233 (re_br 230 (re_br 229 (re_lf 228 (some (.i2l))) (re_lf 229 (some (.lreturn)))) (re_br 231 (re_lf 230 (some (.aload_n 0))) (re_br 232 (re_lf 231 (some (.iload_n 2))) (re_lf 232 (some (.iload_n 3)))))) (re_br 237 (re_br 234 (re_lf 233 (some (.i2l))) (re_lf 234 (some (.invokevirtual 75)))) (re_br 238 (re_lf 237 (some (.lreturn))) (re_br 239 (re_lf 238 (some (.aload_n 0))) (re_lf 239 (some (.iload_n 2)))))))))) (re_br 302 (re_br 268 (re_br 254 (re_br 247 (re_br 244 (re_br 243 (re_lf 240 (some (.invokevirtual 79))) (re_lf 243 (some (.i2l)))) (re_br 245 (re_lf 244 (some (.lreturn))) (re_br 246 (re_lf 245 (some (.aload_n 0))) (re_lf 246 (some (.iload_n 2)))))) (re_br 251 (re_br 250 (re_lf 247 (some (.invokevirtual 82))) (re_lf 250 (some (.i2l)))) (re_br 252 (re_lf 251 (some (.lreturn))) (re_br 253 (re_lf 252 (some (.aload_n 0))) (re_lf 253 (some (.iload_n 2))))))) (re_br 263 (re_br 258 (re_br 257 (re_lf 254 (some (.invokevirtual 85))) (re_lf 257 (some (.i2l)))) (re_br 259 (re_lf 258 (some (.lreturn))) (re_br 260 (re_lf 259 (some (.aload_n 0))) (re_lf 260 (some (.invokevirtual 88)))))) (re_br 265 (re_br 264 (re_lf 263 (some (.i2l))) (re_lf 264 (some (.lreturn)))) (re_br 266 (re_lf 265 (some (.aload_n 0))) (re_br 267 (re_lf 266 (some (.iload_n 2))) (re_lf 267 (some (.iload_n 3)))))))) (re_br 286 (re_br 279 (re_br 274 (re_br 271 (re_lf 268 (some (.invokevirtual 91))) (re_lf 271 (some (.ifCond .eq 7)))) (re_br 275 (re_lf 274 (some (.lconst 1))) (re_br 278 (re_lf 275 (some (.goto 4))) (re_lf 278 (some (.lconst 0)))))) (re_br 281 (re_br 280 (re_lf 279 (some (.lreturn))) (re_lf 280 (some (.aload_n 0)))) (re_br 282 (re_lf 281 (some (.iload_n 2))) (re_br 285 (re_lf 282 (some (.invokevirtual 95))) (re_lf 285 (some (.i2l))))))) (re_br 293 (re_br 288 (re_br 287 (re_lf 286 (some (.lreturn))) (re_lf 287 (some (.aload_n 0)))) (re_br 289 (re_lf 288 (some (.iload_n 2))) (re_br 292 (re_lf 289 (some (.invokevirtual 98))) (re_lf 292 (some (.i2l)))))) (re_br 295 (re_br 294 (re_lf 293 (some (.lreturn))) (re_lf 294 (some (.aload_n 0)))) (re_br 296 (re_lf 295 (some (.iload_n 2))) (re_br 299 (re_lf 296 (some (.invokevirtual 101))) (re_lf 299 (some (.ifCond .eq 7))))))))) (re_br 330 (re_br 316 (re_br 309 (re_br 306 (re_br 303 (re_lf 302 (some (.lconst 1))) (re_lf 303 (some (.goto 4)))) (re_br 307 (re_lf 306 (some (.lconst 0))) (re_br 308 (re_lf 307 (some (.lreturn))) (re_lf 308 (some (.aload_n 0)))))) (re_br 311 (re_br 310 (re_lf 309 (some (.iload_n 2))) (re_lf 310 (some (.iload_n 3)))) (re_br 314 (re_lf 311 (some (.invokevirtual 105))) (re_br 315 (re_lf 314 (some (.i2l))) (re_lf 315 (some (.lreturn))))))) (re_br 323 (re_br 318 (re_br 317 (re_lf 316 (some (.aload_n 0))) (re_lf 317 (some (.iload_n 2)))) (re_br 319 (re_lf 318 (some (.iload_n 3))) (re_br 322 (re_lf 319 (some (.invokevirtual 108))) (re_lf 322 (some (.lreturn)))))) (re_br 325 (re_br 324 (re_lf 323 (some (.aload_n 0))) (re_lf 324 (some (.iload_n 2)))) (re_br 326 (re_lf 325 (some (.iload_n 3))) (re_br 329 (re_lf 326 (some (.invokevirtual 112))) (re_lf 329 (some (.lreturn)))))))) (re_br 344 (re_br 337 (re_br 332 (re_br 331 (re_lf 330 (some (.aload_n 0))) (re_lf 331 (some (.iload_n 2)))) (re_br 335 (re_lf 332 (some (.invokevirtual 115))) (re_br 336 (re_lf 335 (some (.i2l))) (re_lf 336 (some (.lreturn)))))) (re_br 339 (re_br 338 (re_lf 337 (some (.aload_n 0))) (re_lf 338 (some (.iload_n 2)))) (re_br 342 (re_lf 339 (some (.invokevirtual 118))) (re_br 343 (re_lf 342 (some (.i2l))) (re_lf 343 (some (.lreturn))))))) (re_br 351 (re_br 346 (re_br 345 (re_lf 344 (some (.aload_n 0))) (re_lf 345 (some (.iload_n 2)))) (re_br 349 (re_lf 346 (some (.invokevirtual 121))) (re_br 350 (re_lf 349 (some (.i2l))) (re_lf 350 (some (.lreturn)))))) (re_br 353 (re_br 352 (re_lf 351 (some (.aload_n 0))) (re_lf 352 (some (.iload_n 2)))) (re_br 356 (re_lf 353 (some (.invokevirtual 124))) (re_br 357 (re_lf 356 (some (.i2l))) (re_lf 357 (some (.lreturn)))))))))))
def rI581 : Nat → Option Instr := (re_br 14 (re_br 5 (re_br 2 (re_br 1 (re_lf 0 (some (.aload_n 0))) (re_lf 1 (some (.iload_n 2)))) (re_br 3 (re_lf 2 (some (.iload_n 3))) (re_lf 3 (some (.iload 4))))) (re_br 10 (re_br 8 (re_lf 5 (some (.invokestatic 129))) (re_lf 8 (some (.lstore 5)))) (re_br 12 (re_lf 10 (some (.lload 5))) (re_br 13 (re_lf 12 (some (.aload_n 1))) (re_lf 13 (some (.iload_n 2))))))) (re_br 21 (re_br 17 (re_br 15 (re_lf 14 (some (.iload_n 3))) (re_lf 15 (some (.iload 4)))) (re_br 20 (re_lf 17 (some (.invokestatic 129))) (re_lf 20 (some (.lcmp))))) (re_br 26 (re_br 24 (re_lf 21 (some (.ifCond .ne 8))) (re_lf 24 (some (.lload 5)))) (re_br 29 (re_lf 26 (some (.goto 6))) (re_br 32 (re_lf 29 (some (.ldc2_w 145))) (re_lf 32 (some (.lreturn))))))))
def rI582 : Nat → Option Instr := (re_br 167 (re_br 80 (re_br 39 (re_br 18 (re_br 8 (re_br 3 (re_br 1 (re_lf 0 (some (.iconst 1))) (re_lf 1 (some (.istore 4)))) (re_br 4 (re_lf 3 (some (.iconst 0))) (re_br 6 (re_lf 4 (some (.istore 5))) (re_lf 6 (some (.iload 5)))))) (re_br 12 (re_br 9 (re_lf 8 (some (.iload_n 1))) (re_lf 9 (some (.if_icmp .ge 325)))) (re_br 14 (re_lf 12 (some (.iload 4))) (re_br 17 (re_lf 14 (some (.ifCond .eq 320))) (re_lf 17 (some (.aload_n 0))))))) (re_br 29 (re_br 22 (re_br 20 (re_lf 18 (some (.bipush 21))) (re_lf 20 (some (.iload 5)))) (re_br 23 (re_lf 22 (some (.iconst 0))) (re_br 26 (re_lf 23 (some (.invokestatic 129))) (re_lf 26 (some (.ldc2_w 17)))))) (re_br 33 (re_br 30 (re_lf 29 (some (.lcmp))) (re_lf 30 (some (.ifCond .eq 298)))) (re_br 34 (re_lf 33 (some (.aload_n 0))) (re_br 36 (re_lf 34 (some (.iload 5))) (re_lf 36 (some (.invokevirtual 98)))))))) (re_br 59 (re_br 49 (re_br 42 (re_br 41 (re_lf 39 (some (.istore 6))) (re_lf 41 (some (.aload_n 0)))) (re_br 44 (re_lf 42 (some (.iload 5))) (re_br 47 (re_lf 44 (some (.invokevirtual 101))) (re_lf 47 (some (.istore 7)))))) (re_br 52 (re_br 50 (re_lf 49 (some (.aload_n 0))) (re_lf 50 (some (.iload 5)))) (re_br 55 (re_lf 52 (some (.invokevirtual 115))) (re_br 57 (re_lf 55 (some (.istore 8))) (re_lf 57 (some (.iload 8))))))) (re_br 69 (re_br 64 (re_br 62 (re_lf 59 (some (.ifCond .le 13))) (re_lf 62 (some (.iload 8)))) (re_br 65 (re_lf 64 (some (.iconst 4))) (re_br 68 (re_lf 65 (some (.if_icmp .ge 7))) (re_lf 68 (some (.iconst 1)))))) (re_br 73 (re_br 72 (re_lf 69 (some (.goto 4))) (re_lf 72 (some (.iconst 0)))) (re_br 75 (re_lf 73 (some (.istore 9))) (re_br 77 (re_lf 75 (some (.iload 7))) (re_lf 77 (some (.ifCond .ne 18))))))))) (re_br 121 (re_br 99 (re_br 87 (re_br 82 (re_br 81 (re_lf 80 (some (.iload_n 3))) (re_lf 81 (some (.iconst 1)))) (re_br 85 (re_lf 82 (some (.if_icmp .ne 17))) (re_br 86 (re_lf 85 (some (.aload_n 0))) (re_lf 86 (some (.iload_n 1)))))) (re_br 92 (re_br 89 (re_lf 87 (some (.iload 5))) (re_lf 89 (some (.invokestatic 147)))) (re_br 95 (re_lf 92 (some (.ifCond .ne 7))) (re_br 96 (re_lf 95 (some (.iconst 1))) (re_lf 96 (some (.goto 4))))))) (re_br 108 (re_br 102 (re_br 100 (re_lf 99 (some (.iconst 0))) (re_lf 100 (some (.istore 10)))) (re_br 103 (re_lf 102 (some (.iload_n 2))) (re_br 106 (re_lf 103 (some (.ifCond .gt 8))) (re_lf 106 (some (.iload 7)))))) (re_br 113 (re_br 111 (re_lf 108 (some (.ifCond .ne 59))) (re_lf 111 (some (.iload 6)))) (re_br 116 (re_lf 113 (some (.ifCond .ge 8))) (re_br 118 (re_lf 116 (some (.iload 7))) (re_lf 118 (some (.ifCond .eq 49)))))))) (re_br 144 (re_br 133 (re_br 126 (re_br 123 (re_lf 121 (some (.iload 10))) (re_lf 123 (some (.ifCond .ne 10)))) (re_br 128 (re_lf 126 (some (.iload 6))) (re_br 130 (re_lf 128 (some (.iload 8))) (re_lf 130 (some (.if_icmp .ne 37)))))) (re_br 138 (re_br 135 (re_lf 133 (some (.iload 9))) (re_lf 135 (some (.ifCond .eq 28)))) (re_br 140 (re_lf 138 (some (.iload 7))) (re_br 143 (re_lf 140 (some (.ifCond .ne 7))) (re_lf 143 (some (.iconst 1))))))) (re_br 155 (re_br 148 (re_br 147 (re_lf 144 (some (.goto 4))) (re_lf 147 (some (.iconst 0)))) (re_br 150 (re_lf 148 (some (.iload 6))) (re_br 152 (re_lf 150 (some (.iload 8))) (re_lf 152 (some (.if_icmp .ne 7)))))) (re_br 160 (re_br 156 (re_lf 155 (some (.iconst 1))) (re_br 159 (re_lf 156 (some (.goto 4))) (re_lf 159 (some (.iconst 0))))) (re_br 163 (re_lf 160 (some (.if_icmp .ne 7))) (re_br 164 (re_lf 163 (some (.iconst 1))) (re_lf 164 (some (.goto 4)))))))))) (re_br 249 (re_br 208 (re_br 186 (re_br 175 (re_br 170 (re_br 168 (re_lf 167 (some (.iconst 0))) (re_lf 168 (some (.istore 4)))) (re_br 171 (re_lf 170 (some (.iconst 0))) (re_br 173 (re_lf 171 (some (.istore 11))) (re_lf 173 (some (.iload 11)))))) (re_br 180 (re_br 177 (re_lf 175 (some (.bipush 6))) (re_lf 177 (some (.if_icmp .ge 151)))) (re_br 182 (re_lf 180 (some (.iload 4))) (re_br 185 (re_lf 182 (some (.ifCond .eq 146))) (re_lf 185 (some (.aload_n 0))))))) (re_br 197 (re_br 190 (re_br 188 (re_lf 186 (some (.iload 5))) (re_lf 188 (some (.iload 11)))) (re_br 193 (re_lf 190 (some (.invokevirtual 105))) (re_br 195 (re_lf 193 (some (.istore 12))) (re_lf 195 (some (.iload 6)))))) (re_br 202 (re_br 200 (re_lf 197 (some (.ifCond .eq 8))) (re_lf 200 (some (.iload 12)))) (re_br 205 (re_lf 202 (some (.ifCond .ne 117))) (re_br 207 (re_lf 205 (some (.iload 12))) (re_lf 207 (some (.iconst 1)))))))) (re_br 229 (re_br 218 (re_br 212 (re_br 211 (re_lf 208 (some (.if_icmp .ne 25))) (re_lf 211 (some (.aload_n 0)))) (re_br 214 (re_lf 212 (some (.bipush 24))) (re_br 216 (re_lf 214 (some (.iload 5))) (re_lf 216 (some (.iload 11)))))) (re_br 222 (re_br 221 (re_lf 218 (some (.invokestatic 129))) (re_lf 221 (some (.aload_n 0)))) (re_br 224 (re_lf 222 (some (.iload 5))) (re_br 226 (re_lf 224 (some (.iload 11))) (re_lf 226 (some (.invokevirtual 108))))))) (re_br 239 (re_br 233 (re_br 230 (re_lf 229 (some (.lcmp))) (re_lf 230 (some (.ifCond .ne 89)))) (re_br 235 (re_lf 233 (some (.iload 12))) (re_br 236 (re_lf 235 (some (.iconst 1))) (re_lf 236 (some (.if_icmp .eq 20)))))) (re_br 242 (re_br 240 (re_lf 239 (some (.aload_n 0))) (re_lf 240 (some (.bipush 24)))) (re_br 244 (re_lf 242 (some (.iload 5))) (re_br 246 (re_lf 244 (some (.iload 11))) (re_lf 246 (some (.invokestatic 129))))))))) (re_br 292 (re_br 270 (re_br 261 (re_br 253 (re_br 252 (re_lf 249 (some (.ldc2_w 25))) (re_lf 252 (some (.lcmp)))) (re_br 256 (re_lf 253 (some (.ifCond .ne 66))) (re_br 258 (re_lf 256 (some (.iload 10))) (re_lf 258 (some (.ifCond .ne 57)))))) (re_br 264 (re_br 263 (re_lf 261 (some (.iload 12))) (re_lf 263 (some (.iconst 1)))) (re_br 267 (re_lf 264 (some (.if_icmp .ne 26))) (re_br 268 (re_lf 267 (some (.aload_n 0))) (re_lf 268 (some (.iload 5))))))) (re_br 280 (re_br 275 (re_br 272 (re_lf 270 (some (.iload 11))) (re_lf 272 (some (.invokevirtual 112)))) (re_br 276 (re_lf 275 (some (.aload_n 0))) (re_br 278 (re_lf 276 (some (.iload 5))) (re_lf 278 (some (.iload 11)))))) (re_br 284 (re_br 283 (re_lf 280 (some (.invokevirtual 108))) (re_lf 283 (some (.lcmp)))) (re_br 287 (re_lf 284 (some (.ifCond .ne 35))) (re_br 290 (re_lf 287 (some (.goto 28))) (re_lf 290 (some (.iload 11)))))))) (re_br 312 (re_br 301 (re_br 296 (re_br 294 (re_lf 292 (some (.iload 5))) (re_lf 294 (some (.bipush 6)))) (re_br 297 (re_lf 296 (some (.irem))) (re_br 300 (re_lf 297 (some (.if_icmp .ne 18))) (re_lf 300 (some (.aload_n 0)))))) (re_br 305 (re_br 303 (re_lf 301 (some (.iload 5))) (re_lf 303 (some (.iload 11)))) (re_br 308 (re_lf 305 (some (.invokevirtual 112))) (re_br 311 (re_lf 308 (some (.ldc2_w 151))) (re_lf 311 (some (.lcmp))))))) (re_br 322 (re_br 316 (re_br 315 (re_lf 312 (some (.ifCond .ne 7))) (re_lf 315 (some (.iconst 1)))) (re_br 319 (re_lf 316 (some (.goto 4))) (re_br 320 (re_lf 319 (some (.iconst 0))) (re_lf 320 (some (.istore 4)))))) (re_br 331 (re_br 325 (re_lf 322 (some (.iinc 11 1))) (re_br 328 (re_lf 325 (some (.goto (-152)))) (re_lf 328 (some (.iinc 5 1))))) (re_br 334 (re_lf 331 (some (.goto (-325)))) (re_br 336 (re_lf 334 (some (.iload 4))) (re_lf 336 (some (.ireturn)))))))))))
def rI583 : Nat → Option Instr := (re_br 33 (re_br 16 (re_br 7 (re_br 2 (re_br 1 (re_lf 0 (some (.aload_n 0))) (re_lf 1 (some (.iload_n 2)))) (re_br 5 (re_lf 2 (some (.invokevirtual 121))) (re_br 6 (re_lf 5 (some (.istore_n 3))) (re_lf 6 (some (.iconst 1)))))) (re_br 10 (re_br 9 (re_lf 7 (some (.istore 4))) (re_lf 9 (some (.iconst 0)))) (re_br 12 (re_lf 10 (some (.istore 5))) (re_br 14 (re_lf 12 (some (.iload 5))) (re_lf 14 (some (.bipush 6))))))) (re_br 26 (re_br 18 (re_br 17 (re_lf 16 (some (.iload_n 1))) (re_lf 17 (some (.imul)))) (re_br 21 (re_lf 18 (some (.if_icmp .ge 51))) (re_br 23 (re_lf 21 (some (.iload 4))) (re_lf 23 (some (.ifCond .eq 46)))))) (re_br 29 (re_br 27 (re_lf 26 (some (.iload_n 3))) (re_lf 27 (some (.iload 5)))) (re_br 31 (re_lf 29 (some (.bipush 6))) (re_br 32 (re_lf 31 (some (.idiv))) (re_lf 32 (some (.ishr)))))))) (re_br 49 (re_br 41 (re_br 35 (re_br 34 (re_lf 33 (some (.iconst 1))) (re_lf 34 (some (.iand)))) (re_br 38 (re_lf 35 (some (.ifCond .eq 21))) (re_br 39 (re_lf 38 (some (.aload_n 0))) (re_lf 39 (some (.iload 5)))))) (re_br 44 (re_br 43 (re_lf 41 (some (.bipush 6))) (re_lf 43 (some (.idiv)))) (re_br 46 (re_lf 44 (some (.iload 5))) (re_br 48 (re_lf 46 (some (.bipush 6))) (re_lf 48 (some (.irem))))))) (re_br 60 (re_br 53 (re_br 52 (re_lf 49 (some (.invokevirtual 105))) (re_lf 52 (some (.iconst 2)))) (re_br 56 (re_lf 53 (some (.if_icmp .ge 7))) (re_br 57 (re_lf 56 (some (.iconst 1))) (re_lf 57 (some (.goto 4)))))) (re_br 66 (re_br 61 (re_lf 60 (some (.iconst 0))) (re_br 63 (re_lf 61 (some (.istore 4))) (re_lf 63 (some (.iinc 5 1))))) (re_br 69 (re_lf 66 (some (.goto (-54)))) (re_br 71 (re_lf 69 (some (.iload 4))) (re_lf 71 (some (.ireturn)))))))))
def rI584 : Nat → Option Instr := (re_br 139 (re_br 70 (re_br 34 (re_br 21 (re_br 10 (re_br 3 (re_br 1 (re_lf 0 (some (.iload_n 3))) (re_lf 1 (some (.bipush 16)))) (re_br 6 (re_lf 3 (some (.invokestatic 153))) (re_br 8 (re_lf 6 (some (.istore 4))) (re_lf 8 (some (.iload 4)))))) (re_br 15 (re_br 12 (re_lf 10 (some (.bipush 8))) (re_lf 12 (some (.if_icmp .ge 129)))) (re_br 17 (re_lf 15 (some (.iload 4))) (re_br 18 (re_lf 17 (some (.iconst 4))) (re_lf 18 (some (.if_icmp .ge 23))))))) (re_br 26 (re_br 23 (re_br 22 (re_lf 21 (some (.aload_n 0))) (re_lf 22 (some (.aload_n 1)))) (re_br 24 (re_lf 23 (some (.iconst 0))) (re_br 25 (re_lf 24 (some (.iload_n 3))) (re_lf 25 (some (.iconst 4)))))) (re_br 29 (re_br 27 (re_lf 26 (some (.ishr))) (re_lf 27 (some (.bipush 9)))) (re_br 32 (re_lf 29 (some (.invokestatic 153))) (re_br 33 (re_lf 32 (some (.iconst 2))) (re_lf 33 (some (.isub)))))))) (re_br 52 (re_br 45 (re_br 38 (re_br 35 (re_lf 34 (some (.iconst 0))) (re_lf 35 (some (.invokestatic 156)))) (re_br 41 (re_lf 38 (some (.goto 42))) (re_br 43 (re_lf 41 (some (.iload 4))) (re_lf 43 (some (.bipush 7)))))) (re_br 49 (re_br 48 (re_lf 45 (some (.if_icmp .ge 21))) (re_lf 48 (some (.aload_n 0)))) (re_br 50 (re_lf 49 (some (.aload_n 1))) (re_br 51 (re_lf 50 (some (.iconst 1))) (re_lf 51 (some (.iload_n 3))))))) (re_br 60 (re_br 54 (re_br 53 (re_lf 52 (some (.iconst 4))) (re_lf 53 (some (.ishr)))) (re_br 56 (re_lf 54 (some (.bipush 6))) (re_br 59 (re_lf 56 (some (.invokestatic 153))) (re_lf 59 (some (.iconst 0)))))) (re_br 67 (re_br 63 (re_lf 60 (some (.invokestatic 156))) (re_br 66 (re_lf 63 (some (.goto 17))) (re_lf 66 (some (.aload_n 0))))) (re_br 68 (re_lf 67 (some (.aload_n 1))) (re_br 69 (re_lf 68 (some (.iconst 2))) (re_lf 69 (some (.iload_n 3))))))))) (re_br 102 (re_br 85 (re_br 77 (re_br 72 (re_br 71 (re_lf 70 (some (.iconst 4))) (re_lf 71 (some (.ishr)))) (re_br 73 (re_lf 72 (some (.iconst 4))) (re_br 76 (re_lf 73 (some (.invokestatic 153))) (re_lf 76 (some (.iconst 0)))))) (re_br 82 (re_br 80 (re_lf 77 (some (.invokestatic 156))) (re_lf 80 (some (.lstore 5)))) (re_br 83 (re_lf 82 (some (.aload_n 2))) (re_br 84 (re_lf 83 (some (.iconst 0))) (re_lf 84 (some (.dup2))))))) (re_br 93 (re_br 88 (re_br 86 (re_lf 85 (some (.iaload))) (re_lf 86 (some (.lload 5)))) (re_br 89 (re_lf 88 (some (.lconst 0))) (re_br 90 (re_lf 89 (some (.lcmp))) (re_lf 90 (some (.ifCond .le 7)))))) (re_br 98 (re_br 94 (re_lf 93 (some (.iconst 1))) (re_br 97 (re_lf 94 (some (.goto 4))) (re_lf 97 (some (.iconst 0))))) (re_br 99 (re_lf 98 (some (.iadd))) (re_br 100 (re_lf 99 (some (.iastore))) (re_lf 100 (some (.lload 5)))))))) (re_br 121 (re_br 111 (re_br 106 (re_br 105 (re_lf 102 (some (.ldc2_w 25))) (re_lf 105 (some (.lcmp)))) (re_br 109 (re_lf 106 (some (.ifCond .ne 19))) (re_br 110 (re_lf 109 (some (.aload_n 2))) (re_lf 110 (some (.iconst 0)))))) (re_br 114 (re_br 112 (re_lf 111 (some (.iaload))) (re_lf 112 (some (.bipush 20)))) (re_br 117 (re_lf 114 (some (.if_icmp .ne 7))) (re_br 118 (re_lf 117 (some (.iconst 1))) (re_lf 118 (some (.goto 22))))))) (re_br 129 (re_br 125 (re_br 122 (re_lf 121 (some (.iconst 0))) (re_lf 122 (some (.goto 18)))) (re_br 127 (re_lf 125 (some (.lload 5))) (re_br 128 (re_lf 127 (some (.aload_n 2))) (re_lf 128 (some (.iconst 0)))))) (re_br 132 (re_br 130 (re_lf 129 (some (.iaload))) (re_br 131 (re_lf 130 (some (.i2l))) (re_lf 131 (some (.lcmp))))) (re_br 135 (re_lf 132 (some (.ifCond .ne 7))) (re_br 136 (re_lf 135 (some (.iconst 1))) (re_lf 136 (some (.goto 4)))))))))) (re_br 213 (re_br 176 (re_br 153 (re_br 144 (re_br 141 (re_br 140 (re_lf 139 (some (.iconst 0))) (re_lf 140 (some (.ireturn)))) (re_br 142 (re_lf 141 (some (.iconst 3))) (re_br 143 (re_lf 142 (some (.iload_n 3))) (re_lf 143 (some (.iconst 4)))))) (re_br 147 (re_br 145 (re_lf 144 (some (.ishr))) (re_lf 145 (some (.bipush 6)))) (re_br 150 (re_lf 147 (some (.invokestatic 153))) (re_br 151 (re_lf 150 (some (.iadd))) (re_lf 151 (some (.istore 5))))))) (re_br 163 (re_br 156 (re_br 155 (re_lf 153 (some (.iload 5))) (re_lf 155 (some (.iconst 5)))) (re_br 159 (re_lf 156 (some (.if_icmp .ne 7))) (re_br 160 (re_lf 159 (some (.iconst 3))) (re_lf 160 (some (.goto 21)))))) (re_br 169 (re_br 165 (re_lf 163 (some (.iload 5))) (re_br 166 (re_lf 165 (some (.iconst 3))) (re_lf 166 (some (.if_icmp .eq 10))))) (re_br 171 (re_lf 169 (some (.iload 5))) (re_br 173 (re_lf 171 (some (.bipush 7))) (re_lf 173 (some (.if_icmp .ne 7)))))))) (re_br 193 (re_br 184 (re_br 180 (re_br 177 (re_lf 176 (some (.iconst 1))) (re_lf 177 (some (.goto 4)))) (re_br 181 (re_lf 180 (some (.iconst 2))) (re_br 183 (re_lf 181 (some (.istore 6))) (re_lf 183 (some (.aload_n 0)))))) (re_br 187 (re_br 185 (re_lf 184 (some (.aload_n 1))) (re_lf 185 (some (.iload 5)))) (re_br 189 (re_lf 187 (some (.iload 5))) (re_br 190 (re_lf 189 (some (.iconst 4))) (re_lf 190 (some (.if_icmp .ne 14))))))) (re_br 201 (re_br 196 (re_br 194 (re_lf 193 (some (.iload_n 3))) (re_lf 194 (some (.bipush 7)))) (re_br 197 (re_lf 196 (some (.ishr))) (re_br 198 (re_lf 197 (some (.iconst 4))) (re_lf 198 (some (.invokestatic 153)))))) (re_br 207 (re_br 204 (re_lf 201 (some (.goto 12))) (re_br 205 (re_lf 204 (some (.iload_n 3))) (re_lf 205 (some (.bipush 7))))) (re_br 208 (re_lf 207 (some (.ishr))) (re_br 210 (re_lf 208 (some (.bipush 6))) (re_lf 210 (some (.invokestatic 153))))))))) (re_br 247 (re_br 231 (re_br 224 (re_br 217 (re_br 214 (re_lf 213 (some (.iconst 0))) (re_lf 214 (some (.invokestatic 156)))) (re_br 219 (re_lf 217 (some (.lstore 7))) (re_br 221 (re_lf 219 (some (.lload 7))) (re_lf 221 (some (.ldc2_w 25)))))) (re_br 228 (re_br 225 (re_lf 224 (some (.lcmp))) (re_lf 225 (some (.ifCond .eq 26)))) (re_br 229 (re_lf 228 (some (.aload_n 2))) (re_br 230 (re_lf 229 (some (.iconst 0))) (re_lf 230 (some (.iaload))))))) (re_br 240 (re_br 236 (re_br 233 (re_lf 231 (some (.iload 6))) (re_lf 233 (some (.if_icmp .lt 22)))) (re_br 238 (re_lf 236 (some (.lload 7))) (re_br 239 (re_lf 238 (some (.aload_n 2))) (re_lf 239 (some (.iconst 0)))))) (re_br 244 (re_br 241 (re_lf 240 (some (.iaload))) (re_br 243 (re_lf 241 (some (.iload 6))) (re_lf 243 (some (.isub))))) (re_br 245 (re_lf 244 (some (.iconst 1))) (re_br 246 (re_lf 245 (some (.iadd))) (re_lf 246 (some (.i2l)))))))) (re_br 263 (re_br 256 (re_br 251 (re_br 248 (re_lf 247 (some (.lcmp))) (re_lf 248 (some (.ifCond .ne 7)))) (re_br 252 (re_lf 251 (some (.iconst 1))) (re_br 255 (re_lf 252 (some (.goto 4))) (re_lf 255 (some (.iconst 0)))))) (re_br 259 (re_br 258 (re_lf 256 (some (.istore 9))) (re_lf 258 (some (.aload_n 2)))) (re_br 260 (re_lf 259 (some (.iconst 0))) (re_br 262 (re_lf 260 (some (.lload 7))) (re_lf 262 (some (.lconst 0))))))) (re_br 273 (re_br 267 (re_br 264 (re_lf 263 (some (.lcmp))) (re_lf 264 (some (.ifCond .le 9)))) (re_br 269 (re_lf 267 (some (.lload 7))) (re_br 270 (re_lf 269 (some (.l2i))) (re_lf 270 (some (.goto 6)))))) (re_br 276 (re_br 274 (re_lf 273 (some (.aload_n 2))) (re_br 275 (re_lf 274 (some (.iconst 0))) (re_lf 275 (some (.iaload))))) (re_br 277 (re_lf 276 (some (.iastore))) (re_br 279 (re_lf 277 (some (.iload 9))) (re_lf 279 (some (.ireturn)))))))))))
def rI585 : Nat → Option Instr := (re_br 263 (re_br 124 (re_br 58 (re_br 29 (re_br 13 (re_br 8 (re_br 3 (re_br 1 (re_lf 0 (some (.iload_n 3))) (re_lf 1 (some (.bipush 12)))) (re_br 6 (re_lf 3 (some (.invokestatic 153))) (re_lf 6 (some (.istore 5))))) (re_br 11 (re_br 10 (re_lf 8 (some (.iload 4))) (re_lf 10 (some (.aload_n 2)))) (re_br 12 (re_lf 11 (some (.iconst 1))) (re_lf 12 (some (.iaload)))))) (re_br 20 (re_br 15 (re_br 14 (re_lf 13 (some (.iconst 1))) (re_lf 14 (some (.iadd)))) (re_br 18 (re_lf 15 (some (.invokestatic 153))) (re_lf 18 (some (.istore 6))))) (re_br 23 (re_br 22 (re_lf 20 (some (.iload 4))) (re_lf 22 (some (.iconst 4)))) (re_br 24 (re_lf 23 (some (.ishr))) (re_br 26 (re_lf 24 (some (.bipush 6))) (re_lf 26 (some (.invokestatic 153)))))))) (re_br 44 (re_br 38 (re_br 33 (re_br 31 (re_lf 29 (some (.istore 7))) (re_lf 31 (some (.iload 5)))) (re_br 35 (re_lf 33 (some (.bipush 7))) (re_lf 35 (some (.if_icmp .ge 116))))) (re_br 40 (re_br 39 (re_lf 38 (some (.aload_n 0))) (re_lf 39 (some (.aload_n 1)))) (re_br 42 (re_lf 40 (some (.bipush 10))) (re_lf 42 (some (.iload 6)))))) (re_br 52 (re_br 49 (re_br 46 (re_lf 44 (some (.iload 7))) (re_lf 46 (some (.invokestatic 156)))) (re_br 51 (re_lf 49 (some (.lstore 8))) (re_lf 51 (some (.aload_n 2))))) (re_br 54 (re_br 53 (re_lf 52 (some (.iconst 0))) (re_lf 53 (some (.dup2)))) (re_br 55 (re_lf 54 (some (.iaload))) (re_br 57 (re_lf 55 (some (.lload 8))) (re_lf 57 (some (.lconst 0))))))))) (re_br 90 (re_br 71 (re_br 66 (re_br 62 (re_br 59 (re_lf 58 (some (.lcmp))) (re_lf 59 (some (.ifCond .le 7)))) (re_br 63 (re_lf 62 (some (.iconst 1))) (re_lf 63 (some (.goto 4))))) (re_br 68 (re_br 67 (re_lf 66 (some (.iconst 0))) (re_lf 67 (some (.isub)))) (re_br 69 (re_lf 68 (some (.iastore))) (re_lf 69 (some (.lload 8)))))) (re_br 79 (re_br 75 (re_br 74 (re_lf 71 (some (.ldc2_w 17))) (re_lf 74 (some (.lcmp)))) (re_br 78 (re_lf 75 (some (.ifCond .ne 27))) (re_lf 78 (some (.aload_n 0))))) (re_br 83 (re_br 81 (re_lf 79 (some (.bipush 21))) (re_lf 81 (some (.iload 6)))) (re_br 84 (re_lf 83 (some (.iconst 0))) (re_br 87 (re_lf 84 (some (.invokestatic 129))) (re_lf 87 (some (.ldc2_w 17)))))))) (re_br 107 (re_br 98 (re_br 94 (re_br 91 (re_lf 90 (some (.lcmp))) (re_lf 91 (some (.ifCond .ne 7)))) (re_br 95 (re_lf 94 (some (.iconst 1))) (re_lf 95 (some (.goto 55))))) (re_br 102 (re_br 99 (re_lf 98 (some (.iconst 0))) (re_lf 99 (some (.goto 51)))) (re_br 104 (re_lf 102 (some (.lload 8))) (re_lf 104 (some (.ldc2_w 25)))))) (re_br 114 (re_br 111 (re_br 108 (re_lf 107 (some (.lcmp))) (re_lf 108 (some (.ifCond .eq 37)))) (re_br 113 (re_lf 111 (some (.lload 8))) (re_lf 113 (some (.lconst 0))))) (re_br 118 (re_br 115 (re_lf 114 (some (.lcmp))) (re_lf 115 (some (.ifCond .le 34)))) (re_br 120 (re_lf 118 (some (.lload 8))) (re_br 123 (re_lf 120 (some (.ldc2_w 160))) (re_lf 123 (some (.lcmp)))))))))) (re_br 192 (re_br 158 (re_br 139 (re_br 133 (re_br 128 (re_br 127 (re_lf 124 (some (.ifCond .ge 25))) (re_lf 127 (some (.aload_n 0)))) (re_br 130 (re_lf 128 (some (.iload 6))) (re_lf 130 (some (.invokevirtual 118))))) (re_br 136 (re_br 135 (re_lf 133 (some (.bipush 63))) (re_lf 135 (some (.iand)))) (re_br 137 (re_lf 136 (some (.aload_n 0))) (re_lf 137 (some (.iload 6)))))) (re_br 149 (re_br 145 (re_br 142 (re_lf 139 (some (.invokevirtual 118))) (re_lf 142 (some (.if_icmp .ne 7)))) (re_br 146 (re_lf 145 (some (.iconst 1))) (re_lf 146 (some (.goto 4))))) (re_br 151 (re_br 150 (re_lf 149 (some (.iconst 0))) (re_lf 150 (some (.ireturn)))) (re_br 153 (re_lf 151 (some (.iload 5))) (re_br 155 (re_lf 153 (some (.bipush 9))) (re_lf 155 (some (.if_icmp .ge 131)))))))) (re_br 173 (re_br 164 (re_br 160 (re_br 159 (re_lf 158 (some (.aload_n 0))) (re_lf 159 (some (.aload_n 1)))) (re_br 162 (re_lf 160 (some (.bipush 11))) (re_lf 162 (some (.iload 6))))) (re_br 169 (re_br 166 (re_lf 164 (some (.iload 7))) (re_lf 166 (some (.invokestatic 156)))) (re_br 171 (re_lf 169 (some (.lstore 8))) (re_lf 171 (some (.lload 8)))))) (re_br 181 (re_br 177 (re_br 176 (re_lf 173 (some (.ldc2_w 17))) (re_lf 176 (some (.lcmp)))) (re_br 180 (re_lf 177 (some (.ifCond .ne 27))) (re_lf 180 (some (.aload_n 0))))) (re_br 185 (re_br 183 (re_lf 181 (some (.bipush 21))) (re_lf 183 (some (.iload 6)))) (re_br 186 (re_lf 185 (some (.iconst 0))) (re_br 189 (re_lf 186 (some (.invokestatic 129))) (re_lf 189 (some (.ldc2_w 17))))))))) (re_br 226 (re_br 209 (re_br 200 (re_br 196 (re_br 193 (re_lf 192 (some (.lcmp))) (re_lf 193 (some (.ifCond .ne 7)))) (re_br 197 (re_lf 196 (some (.iconst 1))) (re_lf 197 (some (.goto 88))))) (re_br 204 (re_br 201 (re_lf 200 (some (.iconst 0))) (re_lf 201 (some (.goto 84)))) (re_br 206 (re_lf 204 (some (.lload 8))) (re_lf 206 (some (.ldc2_w 25)))))) (re_br 216 (re_br 213 (re_br 210 (re_lf 209 (some (.lcmp))) (re_lf 210 (some (.ifCond .eq 70)))) (re_br 215 (re_lf 213 (some (.lload 8))) (re_lf 215 (some (.lconst 0))))) (re_br 220 (re_br 217 (re_lf 216 (some (.lcmp))) (re_lf 217 (some (.ifCond .lt 67)))) (re_br 222 (re_lf 220 (some (.lload 8))) (re_br 225 (re_lf 222 (some (.ldc2_w 162))) (re_lf 225 (some (.lcmp)))))))) (re_br 243 (re_br 232 (re_br 230 (re_br 229 (re_lf 226 (some (.ifCond .ge 58))) (re_lf 229 (some (.aload_n 2)))) (re_br 231 (re_lf 230 (some (.iconst 2))) (re_lf 231 (some (.iaload))))) (re_br 236 (re_br 235 (re_lf 232 (some (.ifCond .gt 14))) (re_lf 235 (some (.aload_n 0)))) (re_br 238 (re_lf 236 (some (.iload 6))) (re_br 240 (re_lf 238 (some (.iload 7))) (re_lf 240 (some (.invokevirtual 105))))))) (re_br 251 (re_br 247 (re_br 246 (re_lf 243 (some (.ifCond .ne 41))) (re_lf 246 (some (.aload_n 0)))) (re_br 249 (re_lf 247 (some (.bipush 11))) (re_lf 249 (some (.iload 6))))) (re_br 256 (re_br 253 (re_lf 251 (some (.iload 7))) (re_lf 253 (some (.invokestatic 129)))) (re_br 259 (re_lf 256 (some (.ldc2_w 25))) (re_br 260 (re_lf 259 (some (.lcmp))) (re_lf 260 (some (.ifCond .ne 24))))))))))) (re_br 381 (re_br 321 (re_br 295 (re_br 280 (re_br 270 (re_br 266 (re_br 264 (re_lf 263 (some (.aload_n 1))) (re_lf 264 (some (.bipush 11)))) (re_br 268 (re_lf 266 (some (.iload 6))) (re_lf 268 (some (.iload 7))))) (re_br 276 (re_br 273 (re_lf 270 (some (.invokestatic 129))) (re_lf 273 (some (.ldc2_w 25)))) (re_br 277 (re_lf 276 (some (.lcmp))) (re_lf 277 (some (.ifCond .ne 7)))))) (re_br 286 (re_br 284 (re_br 281 (re_lf 280 (some (.iconst 1))) (re_lf 281 (some (.goto 4)))) (re_br 285 (re_lf 284 (some (.iconst 0))) (re_lf 285 (some (.ireturn))))) (re_br 290 (re_br 288 (re_lf 286 (some (.iload 5))) (re_lf 288 (some (.bipush 10)))) (re_br 293 (re_lf 290 (some (.if_icmp .ge 75))) (re_br 294 (re_lf 293 (some (.aload_n 0))) (re_lf 294 (some (.aload_n 1)))))))) (re_br 307 (re_br 302 (re_br 298 (re_br 297 (re_lf 295 (some (.bipush 9))) (re_lf 297 (some (.iconst 0)))) (re_br 299 (re_lf 298 (some (.iconst 0))) (re_lf 299 (some (.invokestatic 156))))) (re_br 305 (re_br 304 (re_lf 302 (some (.lstore 8))) (re_lf 304 (some (.aload_n 2)))) (re_br 306 (re_lf 305 (some (.iconst 1))) (re_lf 306 (some (.dup2)))))) (re_br 312 (re_br 310 (re_br 308 (re_lf 307 (some (.iaload))) (re_lf 308 (some (.lload 8)))) (re_br 311 (re_lf 310 (some (.lconst 0))) (re_lf 311 (some (.lcmp))))) (re_br 316 (re_br 315 (re_lf 312 (some (.ifCond .lt 7))) (re_lf 315 (some (.iconst 1)))) (re_br 319 (re_lf 316 (some (.goto 4))) (re_br 320 (re_lf 319 (some (.iconst 0))) (re_lf 320 (some (.iadd))))))))) (re_br 351 (re_br 334 (re_br 328 (re_br 324 (re_br 322 (re_lf 321 (some (.iastore))) (re_lf 322 (some (.lload 8)))) (re_br 327 (re_lf 324 (some (.ldc2_w 25))) (re_lf 327 (some (.lcmp))))) (re_br 332 (re_br 331 (re_lf 328 (some (.ifCond .ne 19))) (re_lf 331 (some (.aload_n 2)))) (re_br 333 (re_lf 332 (some (.iconst 1))) (re_lf 333 (some (.iaload)))))) (re_br 343 (re_br 339 (re_br 336 (re_lf 334 (some (.bipush 12))) (re_lf 336 (some (.if_icmp .ne 7)))) (re_br 340 (re_lf 339 (some (.iconst 1))) (re_lf 340 (some (.goto 24))))) (re_br 347 (re_br 344 (re_lf 343 (some (.iconst 0))) (re_lf 344 (some (.goto 20)))) (re_br 349 (re_lf 347 (some (.lload 8))) (re_br 350 (re_lf 349 (some (.aload_n 2))) (re_lf 350 (some (.iconst 1)))))))) (re_br 364 (re_br 355 (re_br 353 (re_br 352 (re_lf 351 (some (.iaload))) (re_lf 352 (some (.iconst 1)))) (re_br 354 (re_lf 353 (some (.isub))) (re_lf 354 (some (.i2l))))) (re_br 359 (re_br 356 (re_lf 355 (some (.lcmp))) (re_lf 356 (some (.ifCond .ne 7)))) (re_br 360 (re_lf 359 (some (.iconst 1))) (re_br 363 (re_lf 360 (some (.goto 4))) (re_lf 363 (some (.iconst 0))))))) (re_br 372 (re_br 367 (re_br 365 (re_lf 364 (some (.ireturn))) (re_lf 365 (some (.iload 5)))) (re_br 369 (re_lf 367 (some (.bipush 11))) (re_lf 369 (some (.if_icmp .ge 80))))) (re_br 376 (re_br 374 (re_lf 372 (some (.iload 4))) (re_lf 374 (some (.bipush 7)))) (re_br 377 (re_lf 376 (some (.ishr))) (re_br 378 (re_lf 377 (some (.iconst 3))) (re_lf 378 (some (.invokestatic 153)))))))))) (re_br 449 (re_br 415 (re_br 397 (re_br 391 (re_br 387 (re_br 384 (re_lf 381 (some (.ifCond .le 9))) (re_lf 384 (some (.ldc2_w 17)))) (re_br 390 (re_lf 387 (some (.goto 13))) (re_lf 390 (some (.aload_n 0))))) (re_br 394 (re_br 392 (re_lf 391 (some (.aload_n 1))) (re_lf 392 (some (.bipush 12)))) (re_br 396 (re_lf 394 (some (.iload 6))) (re_lf 396 (some (.iconst 0)))))) (re_br 407 (re_br 402 (re_br 400 (re_lf 397 (some (.invokestatic 156))) (re_lf 400 (some (.lstore 8)))) (re_br 404 (re_lf 402 (some (.lload 8))) (re_lf 404 (some (.ldc2_w 17))))) (re_br 411 (re_br 408 (re_lf 407 (some (.lcmp))) (re_lf 408 (some (.ifCond .eq 35)))) (re_br 413 (re_lf 411 (some (.lload 8))) (re_br 414 (re_lf 413 (some (.lconst 0))) (re_lf 414 (some (.lcmp)))))))) (re_br 432 (re_br 424 (re_br 420 (re_br 418 (re_lf 415 (some (.ifCond .lt 32))) (re_lf 418 (some (.lload 8)))) (re_br 423 (re_lf 420 (some (.ldc2_w 164))) (re_lf 423 (some (.lcmp))))) (re_br 428 (re_br 427 (re_lf 424 (some (.ifCond .ge 23))) (re_lf 427 (some (.aload_n 0)))) (re_br 430 (re_lf 428 (some (.bipush 21))) (re_lf 430 (some (.iload 6)))))) (re_br 440 (re_br 436 (re_br 433 (re_lf 432 (some (.iconst 0))) (re_lf 433 (some (.invokestatic 129)))) (re_br 439 (re_lf 436 (some (.ldc2_w 17))) (re_lf 439 (some (.lcmp))))) (re_br 444 (re_br 443 (re_lf 440 (some (.ifCond .ne 7))) (re_lf 443 (some (.iconst 1)))) (re_br 447 (re_lf 444 (some (.goto 4))) (re_br 448 (re_lf 447 (some (.iconst 0))) (re_lf 448 (some (.ireturn))))))))) (re_br 482 (re_br 462 (re_br 455 (re_br 451 (re_br 450 (re_lf 449 (some (.aload_n 0))) (re_lf 450 (some (.aload_n 1)))) (re_br 453 (re_lf 451 (some (.bipush 13))) (re_lf 453 (some (.iload 7))))) (re_br 459 (re_br 457 (re_lf 455 (some (.iload 4))) (re_lf 457 (some (.bipush 7)))) (re_br 460 (re_lf 459 (some (.ishr))) (re_lf 460 (some (.bipush 6)))))) (re_br 472 (re_br 468 (re_br 465 (re_lf 462 (some (.invokestatic 153))) (re_lf 465 (some (.invokestatic 156)))) (re_br 470 (re_lf 468 (some (.lstore 8))) (re_lf 470 (some (.lload 8))))) (re_br 476 (re_br 475 (re_lf 472 (some (.ldc2_w 25))) (re_lf 475 (some (.lcmp)))) (re_br 479 (re_lf 476 (some (.ifCond .eq 34))) (re_br 481 (re_lf 479 (some (.lload 8))) (re_lf 481 (some (.lconst 0)))))))) (re_br 498 (re_br 489 (re_br 486 (re_br 483 (re_lf 482 (some (.lcmp))) (re_lf 483 (some (.ifCond .lt 31)))) (re_br 488 (re_lf 486 (some (.lload 8))) (re_lf 488 (some (.lconst 0))))) (re_br 493 (re_br 490 (re_lf 489 (some (.lcmp))) (re_lf 490 (some (.ifCond .eq 20)))) (re_br 494 (re_lf 493 (some (.aload_n 0))) (re_br 496 (re_lf 494 (some (.bipush 13))) (re_lf 496 (some (.iload 7))))))) (re_br 507 (re_br 503 (re_br 500 (re_lf 498 (some (.iload 7))) (re_lf 500 (some (.invokestatic 129)))) (re_br 506 (re_lf 503 (some (.ldc2_w 25))) (re_lf 506 (some (.lcmp))))) (re_br 511 (re_br 510 (re_lf 507 (some (.ifCond .ne 7))) (re_lf 510 (some (.iconst 1)))) (re_br 514 (re_lf 511 (some (.goto 4))) (re_br 515 (re_lf 514 (some (.iconst 0))) (re_lf 515 (some (.ireturn))))))))))))
def rI586 : Nat → Option Instr := (re_br 288 (re_br 145 (re_br 74 (re_br 36 (re_br 15 (re_br 10 (re_br 3 (re_br 1 (re_lf 0 (some (.iload_n 3))) (re_lf 1 (some (.bipush 8)))) (re_br 6 (re_lf 3 (some (.invokestatic 153))) (re_br 8 (re_lf 6 (some (.istore 5))) (re_lf 8 (some (.iload 4)))))) (re_br 12 (re_br 11 (re_lf 10 (some (.aload_n 2))) (re_lf 11 (some (.iconst 1)))) (re_br 13 (re_lf 12 (some (.iaload))) (re_br 14 (re_lf 13 (some (.iconst 1))) (re_lf 14 (some (.iadd))))))) (re_br 26 (re_br 20 (re_br 18 (re_lf 15 (some (.invokestatic 153))) (re_lf 18 (some (.istore 6)))) (re_br 22 (re_lf 20 (some (.iload 5))) (re_br 23 (re_lf 22 (some (.iconst 2))) (re_lf 23 (some (.if_icmp .ge 91)))))) (re_br 32 (re_br 28 (re_lf 26 (some (.iload 4))) (re_br 29 (re_lf 28 (some (.iconst 4))) (re_lf 29 (some (.invokestatic 153))))) (re_br 34 (re_lf 32 (some (.istore 7))) (re_br 35 (re_lf 34 (some (.aload_n 0))) (re_lf 35 (some (.aload_n 1)))))))) (re_br 55 (re_br 44 (re_br 40 (re_br 38 (re_lf 36 (some (.bipush 14))) (re_lf 38 (some (.iload 7)))) (re_br 42 (re_lf 40 (some (.iload 4))) (re_br 43 (re_lf 42 (some (.iconst 3))) (re_lf 43 (some (.ishr)))))) (re_br 48 (re_br 45 (re_lf 44 (some (.iconst 4))) (re_lf 45 (some (.invokestatic 153)))) (re_br 51 (re_lf 48 (some (.invokestatic 156))) (re_br 53 (re_lf 51 (some (.lstore 8))) (re_lf 53 (some (.lload 8))))))) (re_br 62 (re_br 57 (re_br 56 (re_lf 55 (some (.lconst 0))) (re_lf 56 (some (.lcmp)))) (re_br 60 (re_lf 57 (some (.ifCond .lt 55))) (re_br 61 (re_lf 60 (some (.aload_n 0))) (re_lf 61 (some (.aload_n 1)))))) (re_br 68 (re_br 64 (re_lf 62 (some (.bipush 14))) (re_br 66 (re_lf 64 (some (.iload 7))) (re_lf 66 (some (.lload 8))))) (re_br 69 (re_lf 68 (some (.l2i))) (re_br 72 (re_lf 69 (some (.invokestatic 156))) (re_lf 72 (some (.iload 4))))))))) (re_br 109 (re_br 89 (re_br 81 (re_br 76 (re_br 75 (re_lf 74 (some (.iconst 3))) (re_lf 75 (some (.ishr)))) (re_br 77 (re_lf 76 (some (.iconst 4))) (re_br 80 (re_lf 77 (some (.invokestatic 153))) (re_lf 80 (some (.i2l)))))) (re_br 85 (re_br 82 (re_lf 81 (some (.lcmp))) (re_lf 82 (some (.ifCond .ne 30)))) (re_br 86 (re_lf 85 (some (.aload_n 0))) (re_br 87 (re_lf 86 (some (.aload_n 1))) (re_lf 87 (some (.bipush 14))))))) (re_br 96 (re_br 93 (re_br 91 (re_lf 89 (some (.iload 7))) (re_lf 91 (some (.iload 4)))) (re_br 94 (re_lf 93 (some (.iconst 3))) (re_br 95 (re_lf 94 (some (.ishr))) (re_lf 95 (some (.iconst 4)))))) (re_br 104 (re_br 99 (re_lf 96 (some (.invokestatic 153))) (re_br 102 (re_lf 99 (some (.invokestatic 156))) (re_lf 102 (some (.lload 8))))) (re_br 105 (re_lf 104 (some (.lcmp))) (re_br 108 (re_lf 105 (some (.ifCond .ne 7))) (re_lf 108 (some (.iconst 1)))))))) (re_br 126 (re_br 117 (re_br 113 (re_br 112 (re_lf 109 (some (.goto 4))) (re_lf 112 (some (.iconst 0)))) (re_br 114 (re_lf 113 (some (.ireturn))) (re_br 116 (re_lf 114 (some (.iload 5))) (re_lf 116 (some (.iconst 3)))))) (re_br 121 (re_br 120 (re_lf 117 (some (.if_icmp .ge 28))) (re_lf 120 (some (.aload_n 0)))) (re_br 122 (re_lf 121 (some (.aload_n 1))) (re_br 124 (re_lf 122 (some (.bipush 15))) (re_lf 124 (some (.iload 4))))))) (re_br 135 (re_br 130 (re_br 127 (re_lf 126 (some (.iconst 3))) (re_lf 127 (some (.invokestatic 153)))) (re_br 131 (re_lf 130 (some (.iconst 0))) (re_br 134 (re_lf 131 (some (.invokestatic 156))) (re_lf 134 (some (.lconst 0)))))) (re_br 140 (re_br 136 (re_lf 135 (some (.lcmp))) (re_br 139 (re_lf 136 (some (.ifCond .lt 7))) (re_lf 139 (some (.iconst 1))))) (re_br 143 (re_lf 140 (some (.goto 4))) (re_br 144 (re_lf 143 (some (.iconst 0))) (re_lf 144 (some (.ireturn)))))))))) (re_br 210 (re_br 181 (re_br 162 (re_br 153 (re_br 148 (re_br 147 (re_lf 145 (some (.iload 5))) (re_lf 147 (some (.iconst 4)))) (re_br 151 (re_lf 148 (some (.if_icmp .ge 65))) (re_br 152 (re_lf 151 (some (.aload_n 0))) (re_lf 152 (some (.aload_n 1)))))) (re_br 157 (re_br 155 (re_lf 153 (some (.bipush 16))) (re_lf 155 (some (.iload 4)))) (re_br 158 (re_lf 157 (some (.iconst 3))) (re_br 161 (re_lf 158 (some (.invokestatic 153))) (re_lf 161 (some (.iconst 0))))))) (re_br 171 (re_br 167 (re_br 165 (re_lf 162 (some (.invokestatic 156))) (re_lf 165 (some (.lstore 7)))) (re_br 169 (re_lf 167 (some (.lload 7))) (re_br 170 (re_lf 169 (some (.aload_n 2))) (re_lf 170 (some (.iconst 2)))))) (re_br 174 (re_br 172 (re_lf 171 (some (.iaload))) (re_br 173 (re_lf 172 (some (.i2l))) (re_lf 173 (some (.lcmp))))) (re_br 177 (re_lf 174 (some (.ifCond .ne 7))) (re_br 178 (re_lf 177 (some (.iconst 1))) (re_lf 178 (some (.goto 4)))))))) (re_br 195 (re_br 188 (re_br 184 (re_br 182 (re_lf 181 (some (.iconst 0))) (re_lf 182 (some (.istore 9)))) (re_br 185 (re_lf 184 (some (.aload_n 2))) (re_br 186 (re_lf 185 (some (.iconst 2))) (re_lf 186 (some (.iload 4)))))) (re_br 192 (re_br 189 (re_lf 188 (some (.iconst 3))) (re_lf 189 (some (.invokestatic 153)))) (re_br 193 (re_lf 192 (some (.iastore))) (re_br 194 (re_lf 193 (some (.aload_n 2))) (re_lf 194 (some (.iconst 4))))))) (re_br 202 (re_br 197 (re_br 196 (re_lf 195 (some (.aload_n 2))) (re_lf 196 (some (.iconst 2)))) (re_br 198 (re_lf 197 (some (.iaload))) (re_br 199 (re_lf 198 (some (.iconst 2))) (re_lf 199 (some (.if_icmp .ne 7)))))) (re_br 207 (re_br 203 (re_lf 202 (some (.iconst 1))) (re_br 206 (re_lf 203 (some (.goto 6))) (re_lf 206 (some (.aload_n 2))))) (re_br 208 (re_lf 207 (some (.iconst 4))) (re_br 209 (re_lf 208 (some (.iaload))) (re_lf 209 (some (.iastore))))))))) (re_br 249 (re_br 229 (re_br 220 (re_br 213 (re_br 212 (re_lf 210 (some (.iload 9))) (re_lf 212 (some (.ireturn)))) (re_br 215 (re_lf 213 (some (.iload 5))) (re_br 217 (re_lf 215 (some (.bipush 6))) (re_lf 217 (some (.if_icmp .ge 151)))))) (re_br 223 (re_br 221 (re_lf 220 (some (.aload_n 0))) (re_lf 221 (some (.bipush 21)))) (re_br 225 (re_lf 223 (some (.iload 6))) (re_br 226 (re_lf 225 (some (.iconst 0))) (re_lf 226 (some (.invokestatic 129))))))) (re_br 240 (re_br 233 (re_br 232 (re_lf 229 (some (.ldc2_w 17))) (re_lf 232 (some (.lcmp)))) (re_br 236 (re_lf 233 (some (.ifCond .eq 7))) (re_br 237 (re_lf 236 (some (.iconst 1))) (re_lf 237 (some (.goto 4)))))) (re_br 244 (re_br 241 (re_lf 240 (some (.iconst 0))) (re_br 243 (re_lf 241 (some (.istore 7))) (re_lf 243 (some (.aload_n 0))))) (re_br 246 (re_lf 244 (some (.bipush 29))) (re_br 248 (re_lf 246 (some (.iload 6))) (re_lf 248 (some (.iconst 0)))))))) (re_br 271 (re_br 258 (re_br 254 (re_br 252 (re_lf 249 (some (.invokestatic 129))) (re_lf 252 (some (.lstore 8)))) (re_br 255 (re_lf 254 (some (.aload_n 0))) (re_br 256 (re_lf 255 (some (.aload_n 1))) (re_lf 256 (some (.bipush 17)))))) (re_br 264 (re_br 260 (re_lf 258 (some (.iload 6))) (re_br 261 (re_lf 260 (some (.iconst 0))) (re_lf 261 (some (.invokestatic 156))))) (re_br 266 (re_lf 264 (some (.lstore 10))) (re_br 268 (re_lf 266 (some (.iload 7))) (re_lf 268 (some (.ifCond .eq 85))))))) (re_br 280 (re_br 274 (re_br 273 (re_lf 271 (some (.lload 10))) (re_lf 273 (some (.lconst 0)))) (re_br 275 (re_lf 274 (some (.lcmp))) (re_br 278 (re_lf 275 (some (.ifCond .lt 74))) (re_lf 278 (some (.lload 10)))))) (re_br 283 (re_br 281 (re_lf 280 (some (.aload_n 2))) (re_br 282 (re_lf 281 (some (.iconst 1))) (re_lf 282 (some (.iaload))))) (re_br 284 (re_lf 283 (some (.i2l))) (re_br 285 (re_lf 284 (some (.lcmp))) (re_lf 285 (some (.ifCond .gt 64))))))))))) (re_br 432 (re_br 363 (re_br 323 (re_br 307 (re_br 297 (re_br 291 (re_br 289 (re_lf 288 (some (.aload_n 0))) (re_lf 289 (some (.iload 6)))) (re_br 294 (re_lf 291 (some (.invokevirtual 124))) (re_br 295 (re_lf 294 (some (.i2l))) (re_lf 295 (some (.lload 8)))))) (re_br 301 (re_br 298 (re_lf 297 (some (.lcmp))) (re_lf 298 (some (.ifCond .lt 51)))) (re_br 302 (re_lf 301 (some (.aload_n 0))) (re_br 304 (re_lf 302 (some (.iload 6))) (re_lf 304 (some (.invokevirtual 124))))))) (re_br 313 (re_br 310 (re_br 308 (re_lf 307 (some (.i2l))) (re_lf 308 (some (.lload 8)))) (re_br 311 (re_lf 310 (some (.lconst 1))) (re_br 312 (re_lf 311 (some (.ladd))) (re_lf 312 (some (.lcmp)))))) (re_br 318 (re_br 316 (re_lf 313 (some (.ifCond .gt 36))) (re_br 317 (re_lf 316 (some (.aload_n 2))) (re_lf 317 (some (.iconst 2))))) (re_br 319 (re_lf 318 (some (.iaload))) (re_br 320 (re_lf 319 (some (.iconst 2))) (re_lf 320 (some (.if_icmp .eq 25)))))))) (re_br 341 (re_br 333 (re_br 326 (re_br 324 (re_lf 323 (some (.aload_n 0))) (re_lf 324 (some (.iload 6)))) (re_br 329 (re_lf 326 (some (.invokevirtual 101))) (re_br 332 (re_lf 329 (some (.ifCond .ne 20))) (re_lf 332 (some (.aload_n 2)))))) (re_br 335 (re_br 334 (re_lf 333 (some (.iconst 2))) (re_lf 334 (some (.iaload)))) (re_br 338 (re_lf 335 (some (.ifCond .gt 10))) (re_br 340 (re_lf 338 (some (.lload 10))) (re_lf 340 (some (.lconst 0))))))) (re_br 350 (re_br 345 (re_br 342 (re_lf 341 (some (.lcmp))) (re_lf 342 (some (.ifCond .ne 7)))) (re_br 346 (re_lf 345 (some (.iconst 1))) (re_br 349 (re_lf 346 (some (.goto 21))) (re_lf 349 (some (.iconst 0)))))) (re_br 358 (re_br 353 (re_lf 350 (some (.goto 17))) (re_br 355 (re_lf 353 (some (.lload 10))) (re_lf 355 (some (.ldc2_w 17))))) (re_br 359 (re_lf 358 (some (.lcmp))) (re_br 362 (re_lf 359 (some (.ifCond .ne 7))) (re_lf 362 (some (.iconst 1))))))))) (re_br 397 (re_br 380 (re_br 372 (re_br 367 (re_br 366 (re_lf 363 (some (.goto 4))) (re_lf 366 (some (.iconst 0)))) (re_br 368 (re_lf 367 (some (.ireturn))) (re_br 370 (re_lf 368 (some (.iload 5))) (re_lf 370 (some (.bipush 7)))))) (re_br 376 (re_br 375 (re_lf 372 (some (.if_icmp .ge 84))) (re_lf 375 (some (.aload_n 0)))) (re_br 377 (re_lf 376 (some (.aload_n 1))) (re_br 379 (re_lf 377 (some (.bipush 18))) (re_lf 379 (some (.iconst 0))))))) (re_br 388 (re_br 384 (re_br 381 (re_lf 380 (some (.iconst 0))) (re_lf 381 (some (.invokestatic 156)))) (re_br 386 (re_lf 384 (some (.lstore 7))) (re_br 387 (re_lf 386 (some (.aload_n 2))) (re_lf 387 (some (.iconst 3)))))) (re_br 392 (re_br 389 (re_lf 388 (some (.dup2))) (re_br 390 (re_lf 389 (some (.iaload))) (re_lf 390 (some (.lload 7))))) (re_br 393 (re_lf 392 (some (.lconst 0))) (re_br 394 (re_lf 393 (some (.lcmp))) (re_lf 394 (some (.ifCond .lt 7)))))))) (re_br 414 (re_br 404 (re_br 401 (re_br 398 (re_lf 397 (some (.iconst 1))) (re_lf 398 (some (.goto 4)))) (re_br 402 (re_lf 401 (some (.iconst 0))) (re_br 403 (re_lf 402 (some (.iadd))) (re_lf 403 (some (.iastore)))))) (re_br 409 (re_br 406 (re_lf 404 (some (.lload 7))) (re_lf 406 (some (.ldc2_w 25)))) (re_br 410 (re_lf 409 (some (.lcmp))) (re_br 413 (re_lf 410 (some (.ifCond .ne 18))) (re_lf 413 (some (.aload_n 2))))))) (re_br 421 (re_br 416 (re_br 415 (re_lf 414 (some (.iconst 3))) (re_lf 415 (some (.iaload)))) (re_br 417 (re_lf 416 (some (.iconst 4))) (re_br 420 (re_lf 417 (some (.if_icmp .ne 7))) (re_lf 420 (some (.iconst 1)))))) (re_br 428 (re_br 424 (re_lf 421 (some (.goto 34))) (re_br 425 (re_lf 424 (some (.iconst 0))) (re_lf 425 (some (.goto 30))))) (re_br 430 (re_lf 428 (some (.lload 7))) (re_br 431 (re_lf 430 (some (.aload_n 2))) (re_lf 431 (some (.iconst 3)))))))))) (re_br 503 (re_br 463 (re_br 447 (re_br 437 (re_br 434 (re_br 433 (re_lf 432 (some (.iaload))) (re_lf 433 (some (.iconst 1)))) (re_br 435 (re_lf 434 (some (.isub))) (re_br 436 (re_lf 435 (some (.i2l))) (re_lf 436 (some (.lcmp)))))) (re_br 441 (re_br 440 (re_lf 437 (some (.ifCond .ne 17))) (re_lf 440 (some (.aload_n 0)))) (re_br 443 (re_lf 441 (some (.lload 7))) (re_br 444 (re_lf 443 (some (.l2i))) (re_lf 444 (some (.invokevirtual 95))))))) (re_br 456 (re_br 451 (re_br 450 (re_lf 447 (some (.ifCond .ne 7))) (re_lf 450 (some (.iconst 1)))) (re_br 454 (re_lf 451 (some (.goto 4))) (re_br 455 (re_lf 454 (some (.iconst 0))) (re_lf 455 (some (.ireturn)))))) (re_br 460 (re_br 458 (re_lf 456 (some (.iload 4))) (re_br 459 (re_lf 458 (some (.iconst 5))) (re_lf 459 (some (.ishr))))) (re_br 461 (re_lf 460 (some (.aload_n 2))) (re_br 462 (re_lf 461 (some (.iconst 3))) (re_lf 462 (some (.iaload)))))))) (re_br 481 (re_br 471 (re_br 465 (re_br 464 (re_lf 463 (some (.iconst 1))) (re_lf 464 (some (.iadd)))) (re_br 468 (re_lf 465 (some (.invokestatic 153))) (re_br 470 (re_lf 468 (some (.istore 7))) (re_lf 470 (some (.aload_n 0)))))) (re_br 475 (re_br 473 (re_lf 471 (some (.bipush 20))) (re_lf 473 (some (.iload 7)))) (re_br 476 (re_lf 475 (some (.iconst 0))) (re_br 479 (re_lf 476 (some (.invokestatic 129))) (re_lf 479 (some (.lstore 8))))))) (re_br 489 (re_br 483 (re_br 482 (re_lf 481 (some (.aload_n 0))) (re_lf 482 (some (.aload_n 1)))) (re_br 485 (re_lf 483 (some (.bipush 19))) (re_br 487 (re_lf 485 (some (.iload 7))) (re_lf 487 (some (.iload 6)))))) (re_br 496 (re_br 492 (re_lf 489 (some (.invokestatic 156))) (re_br 494 (re_lf 492 (some (.lstore 10))) (re_lf 494 (some (.lload 10))))) (re_br 499 (re_lf 496 (some (.ldc2_w 17))) (re_br 500 (re_lf 499 (some (.lcmp))) (re_lf 500 (some (.ifCond .ne 25))))))))) (re_br 535 (re_br 519 (re_br 511 (re_br 506 (re_br 505 (re_lf 503 (some (.iload 7))) (re_lf 505 (some (.aload_n 2)))) (re_br 507 (re_lf 506 (some (.iconst 3))) (re_br 508 (re_lf 507 (some (.iaload))) (re_lf 508 (some (.if_icmp .eq 11)))))) (re_br 514 (re_br 513 (re_lf 511 (some (.iload 6))) (re_lf 513 (some (.aload_n 2)))) (re_br 515 (re_lf 514 (some (.iconst 1))) (re_br 516 (re_lf 515 (some (.iaload))) (re_lf 516 (some (.if_icmp .lt 7))))))) (re_br 527 (re_br 523 (re_br 520 (re_lf 519 (some (.iconst 1))) (re_lf 520 (some (.goto 4)))) (re_br 524 (re_lf 523 (some (.iconst 0))) (re_br 525 (re_lf 524 (some (.ireturn))) (re_lf 525 (some (.lload 10)))))) (re_br 532 (re_br 529 (re_lf 527 (some (.lload 8))) (re_br 531 (re_lf 529 (some (.iload 6))) (re_lf 531 (some (.lshr))))) (re_br 533 (re_lf 532 (some (.lconst 1))) (re_br 534 (re_lf 533 (some (.land))) (re_lf 534 (some (.lcmp)))))))) (re_br 554 (re_br 546 (re_br 539 (re_br 538 (re_lf 535 (some (.ifCond .ne 37))) (re_lf 538 (some (.aload_n 0)))) (re_br 541 (re_lf 539 (some (.iload 7))) (re_br 544 (re_lf 541 (some (.invokevirtual 95))) (re_lf 544 (some (.iload 6)))))) (re_br 549 (re_br 547 (re_lf 546 (some (.ishr))) (re_br 548 (re_lf 547 (some (.iconst 1))) (re_lf 548 (some (.iand))))) (re_br 552 (re_lf 549 (some (.ifCond .ne 23))) (re_br 553 (re_lf 552 (some (.aload_n 0))) (re_lf 553 (some (.aload_n 1))))))) (re_br 564 (re_br 558 (re_br 556 (re_lf 554 (some (.bipush 19))) (re_lf 556 (some (.iload 7)))) (re_br 560 (re_lf 558 (some (.iload 6))) (re_br 563 (re_lf 560 (some (.invokestatic 156))) (re_lf 563 (some (.lconst 0)))))) (re_br 569 (re_br 565 (re_lf 564 (some (.lcmp))) (re_br 568 (re_lf 565 (some (.ifCond .ne 7))) (re_lf 568 (some (.iconst 1))))) (re_br 572 (re_lf 569 (some (.goto 4))) (re_br 573 (re_lf 572 (some (.iconst 0))) (re_lf 573 (some (.ireturn))))))))))))
def rI587 : Nat → Option Instr := (re_br 205 (re_br 99 (re_br 45 (re_br 21 (re_br 8 (re_br 5 (re_br 1 (re_lf 0 (some (.aload_n 0))) (re_br 2 (re_lf 1 (some (.iload_n 1))) (re_lf 2 (some (.invokestatic 166))))) (re_br 6 (re_lf 5 (some (.lstore_n 2))) (re_br 7 (re_lf 6 (some (.aload_n 0))) (re_lf 7 (some (.iconst 1)))))) (re_br 13 (re_br 9 (re_lf 8 (some (.iconst (-1)))) (re_br 10 (re_lf 9 (some (.iconst 0))) (re_lf 10 (some (.invokestatic 129))))) (re_br 17 (re_br 16 (re_lf 13 (some (.ldc2_w 17))) (re_lf 16 (some (.lcmp)))) (re_br 20 (re_lf 17 (some (.ifCond .ne 237))) (re_lf 20 (some (.aload_n 0))))))) (re_br 34 (re_br 24 (re_br 22 (re_lf 21 (some (.iconst 2))) (re_br 23 (re_lf 22 (some (.iconst 4))) (re_lf 23 (some (.iconst 0))))) (re_br 30 (re_br 27 (re_lf 24 (some (.invokestatic 129))) (re_lf 27 (some (.ldc2_w 17)))) (re_br 31 (re_lf 30 (some (.lcmp))) (re_lf 31 (some (.ifCond .ne 223)))))) (re_br 37 (re_br 35 (re_lf 34 (some (.aload_n 0))) (re_br 36 (re_lf 35 (some (.iconst 4))) (re_lf 36 (some (.iconst (-1)))))) (re_br 41 (re_br 38 (re_lf 37 (some (.iconst 0))) (re_lf 38 (some (.invokestatic 129)))) (re_br 44 (re_lf 41 (some (.ldc2_w 21))) (re_lf 44 (some (.lcmp)))))))) (re_br 72 (re_br 60 (re_br 51 (re_br 48 (re_lf 45 (some (.ifCond .ne 209))) (re_br 49 (re_lf 48 (some (.aload_n 0))) (re_lf 49 (some (.bipush 6))))) (re_br 54 (re_br 53 (re_lf 51 (some (.bipush 16))) (re_lf 53 (some (.iconst 0)))) (re_br 57 (re_lf 54 (some (.invokestatic 129))) (re_lf 57 (some (.ldc2_w 17)))))) (re_br 65 (re_br 61 (re_lf 60 (some (.lcmp))) (re_br 64 (re_lf 61 (some (.ifCond .ne 193))) (re_lf 64 (some (.aload_n 0))))) (re_br 68 (re_br 67 (re_lf 65 (some (.bipush 7))) (re_lf 67 (some (.iconst (-1))))) (re_br 69 (re_lf 68 (some (.iconst 0))) (re_lf 69 (some (.invokestatic 129))))))) (re_br 84 (re_br 79 (re_br 75 (re_lf 72 (some (.ldc2_w 17))) (re_br 76 (re_lf 75 (some (.lcmp))) (re_lf 76 (some (.ifCond .ne 178))))) (re_br 82 (re_br 80 (re_lf 79 (some (.aload_n 0))) (re_lf 80 (some (.bipush 10)))) (re_br 83 (re_lf 82 (some (.iconst (-1)))) (re_lf 83 (some (.iconst 0)))))) (re_br 91 (re_br 87 (re_lf 84 (some (.invokestatic 129))) (re_br 90 (re_lf 87 (some (.ldc2_w 17))) (re_lf 90 (some (.lcmp))))) (re_br 95 (re_br 94 (re_lf 91 (some (.ifCond .ne 163))) (re_lf 94 (some (.aload_n 0)))) (re_br 97 (re_lf 95 (some (.bipush 10))) (re_lf 97 (some (.bipush 12))))))))) (re_br 152 (re_br 126 (re_br 111 (re_br 106 (re_br 100 (re_lf 99 (some (.iconst 0))) (re_br 103 (re_lf 100 (some (.invokestatic 129))) (re_lf 103 (some (.ldc2_w 17))))) (re_br 107 (re_lf 106 (some (.lcmp))) (re_br 110 (re_lf 107 (some (.ifCond .ne 147))) (re_lf 110 (some (.aload_n 0)))))) (re_br 116 (re_br 113 (re_lf 111 (some (.bipush 11))) (re_br 114 (re_lf 113 (some (.iconst 0))) (re_lf 114 (some (.bipush 16))))) (re_br 122 (re_br 119 (re_lf 116 (some (.invokestatic 129))) (re_lf 119 (some (.ldc2_w 17)))) (re_br 123 (re_lf 122 (some (.lcmp))) (re_lf 123 (some (.ifCond .ne 131))))))) (re_br 138 (re_br 130 (re_br 127 (re_lf 126 (some (.aload_n 0))) (re_br 129 (re_lf 127 (some (.bipush 12))) (re_lf 129 (some (.iconst (-1)))))) (re_br 134 (re_br 131 (re_lf 130 (some (.iconst 0))) (re_lf 131 (some (.invokestatic 129)))) (re_br 137 (re_lf 134 (some (.ldc2_w 17))) (re_lf 137 (some (.lcmp)))))) (re_br 144 (re_br 141 (re_lf 138 (some (.ifCond .ne 116))) (re_br 142 (re_lf 141 (some (.aload_n 0))) (re_lf 142 (some (.bipush 13))))) (re_br 146 (re_br 145 (re_lf 144 (some (.iconst (-1)))) (re_lf 145 (some (.iconst 0)))) (re_br 149 (re_lf 146 (some (.invokestatic 129))) (re_lf 149 (some (.ldc2_w 17)))))))) (re_br 177 (re_br 165 (re_br 157 (re_br 153 (re_lf 152 (some (.lcmp))) (re_br 156 (re_lf 153 (some (.ifCond .ne 101))) (re_lf 156 (some (.aload_n 0))))) (re_br 160 (re_br 159 (re_lf 157 (some (.bipush 13))) (re_lf 159 (some (.iconst 0)))) (re_br 162 (re_lf 160 (some (.bipush 16))) (re_lf 162 (some (.invokestatic 129)))))) (re_br 172 (re_br 168 (re_lf 165 (some (.ldc2_w 17))) (re_br 169 (re_lf 168 (some (.lcmp))) (re_lf 169 (some (.ifCond .ne 85))))) (re_br 175 (re_br 173 (re_lf 172 (some (.aload_n 0))) (re_lf 173 (some (.bipush 14)))) (re_br 176 (re_lf 175 (some (.iconst (-1)))) (re_lf 176 (some (.iconst 0))))))) (re_br 191 (re_br 184 (re_br 180 (re_lf 177 (some (.invokestatic 129))) (re_br 183 (re_lf 180 (some (.ldc2_w 17))) (re_lf 183 (some (.lcmp))))) (re_br 188 (re_br 187 (re_lf 184 (some (.ifCond .ne 70))) (re_lf 187 (some (.aload_n 0)))) (re_br 190 (re_lf 188 (some (.bipush 16))) (re_lf 190 (some (.iconst (-1))))))) (re_br 198 (re_br 192 (re_lf 191 (some (.iconst 0))) (re_br 195 (re_lf 192 (some (.invokestatic 129))) (re_lf 195 (some (.ldc2_w 21))))) (re_br 202 (re_br 199 (re_lf 198 (some (.lcmp))) (re_lf 199 (some (.ifCond .ne 55)))) (re_br 203 (re_lf 202 (some (.aload_n 0))) (re_lf 203 (some (.bipush 17)))))))))) (re_br 313 (re_br 259 (re_br 231 (re_br 218 (re_br 211 (re_br 207 (re_lf 205 (some (.bipush 12))) (re_br 208 (re_lf 207 (some (.iconst 0))) (re_lf 208 (some (.invokestatic 129))))) (re_br 214 (re_lf 211 (some (.ldc2_w 17))) (re_br 215 (re_lf 214 (some (.lcmp))) (re_lf 215 (some (.ifCond .ne 39)))))) (re_br 223 (re_br 219 (re_lf 218 (some (.aload_n 0))) (re_br 221 (re_lf 219 (some (.bipush 19))) (re_lf 221 (some (.bipush 9))))) (re_br 227 (re_br 224 (re_lf 223 (some (.iconst 0))) (re_lf 224 (some (.invokestatic 129)))) (re_br 230 (re_lf 227 (some (.ldc2_w 17))) (re_lf 230 (some (.lcmp))))))) (re_br 246 (re_br 237 (re_br 234 (re_lf 231 (some (.ifCond .ne 23))) (re_br 235 (re_lf 234 (some (.aload_n 0))) (re_lf 235 (some (.bipush 20))))) (re_br 240 (re_br 239 (re_lf 237 (some (.bipush 9))) (re_lf 239 (some (.iconst 0)))) (re_br 243 (re_lf 240 (some (.invokestatic 129))) (re_lf 243 (some (.ldc2_w 17)))))) (re_br 251 (re_br 247 (re_lf 246 (some (.lcmp))) (re_br 250 (re_lf 247 (some (.ifCond .ne 7))) (re_lf 250 (some (.iconst 1))))) (re_br 255 (re_br 254 (re_lf 251 (some (.goto 4))) (re_lf 254 (some (.iconst 0)))) (re_br 257 (re_lf 255 (some (.istore 4))) (re_lf 257 (some (.iload 4)))))))) (re_br 286 (re_br 273 (re_br 265 (re_br 262 (re_lf 259 (some (.ifCond .eq 156))) (re_br 263 (re_lf 262 (some (.aload_n 0))) (re_lf 263 (some (.bipush 21))))) (re_br 267 (re_br 266 (re_lf 265 (some (.iconst (-1)))) (re_lf 266 (some (.iconst 0)))) (re_br 270 (re_lf 267 (some (.invokestatic 129))) (re_lf 270 (some (.ldc2_w 17)))))) (re_br 278 (re_br 274 (re_lf 273 (some (.lcmp))) (re_br 277 (re_lf 274 (some (.ifCond .ne 141))) (re_lf 277 (some (.aload_n 0))))) (re_br 282 (re_br 280 (re_lf 278 (some (.bipush 22))) (re_lf 280 (some (.bipush 12)))) (re_br 283 (re_lf 282 (some (.iconst 0))) (re_lf 283 (some (.invokestatic 129))))))) (re_br 298 (re_br 293 (re_br 289 (re_lf 286 (some (.ldc2_w 17))) (re_br 290 (re_lf 289 (some (.lcmp))) (re_lf 290 (some (.ifCond .ne 125))))) (re_br 296 (re_br 294 (re_lf 293 (some (.aload_n 0))) (re_lf 294 (some (.bipush 23)))) (re_br 297 (re_lf 296 (some (.iconst (-1)))) (re_lf 297 (some (.iconst 0)))))) (re_br 305 (re_br 301 (re_lf 298 (some (.invokestatic 129))) (re_br 304 (re_lf 301 (some (.ldc2_w 17))) (re_lf 304 (some (.lcmp))))) (re_br 309 (re_br 308 (re_lf 305 (some (.ifCond .ne 110))) (re_lf 308 (some (.aload_n 0)))) (re_br 311 (re_lf 309 (some (.bipush 24))) (re_lf 311 (some (.bipush 12))))))))) (re_br 366 (re_br 339 (re_br 325 (re_br 320 (re_br 314 (re_lf 313 (some (.iconst 0))) (re_br 317 (re_lf 314 (some (.invokestatic 129))) (re_lf 317 (some (.ldc2_w 17))))) (re_br 321 (re_lf 320 (some (.lcmp))) (re_br 324 (re_lf 321 (some (.ifCond .ne 94))) (re_lf 324 (some (.aload_n 0)))))) (re_br 329 (re_br 327 (re_lf 325 (some (.bipush 25))) (re_br 328 (re_lf 327 (some (.iconst (-1)))) (re_lf 328 (some (.iconst 0))))) (re_br 335 (re_br 332 (re_lf 329 (some (.invokestatic 129))) (re_lf 332 (some (.ldc2_w 17)))) (re_br 336 (re_lf 335 (some (.lcmp))) (re_lf 336 (some (.ifCond .ne 79))))))) (re_br 352 (re_br 344 (re_br 340 (re_lf 339 (some (.aload_n 0))) (re_br 342 (re_lf 340 (some (.bipush 26))) (re_lf 342 (some (.bipush 12))))) (re_br 348 (re_br 345 (re_lf 344 (some (.iconst 0))) (re_lf 345 (some (.invokestatic 129)))) (re_br 351 (re_lf 348 (some (.ldc2_w 17))) (re_lf 351 (some (.lcmp)))))) (re_br 358 (re_br 355 (re_lf 352 (some (.ifCond .ne 63))) (re_br 356 (re_lf 355 (some (.aload_n 0))) (re_lf 356 (some (.bipush 27))))) (re_br 360 (re_br 359 (re_lf 358 (some (.iconst (-1)))) (re_lf 359 (some (.iconst 0)))) (re_br 363 (re_lf 360 (some (.invokestatic 129))) (re_lf 363 (some (.ldc2_w 17)))))))) (re_br 391 (re_br 379 (re_br 371 (re_br 367 (re_lf 366 (some (.lcmp))) (re_br 370 (re_lf 367 (some (.ifCond .ne 48))) (re_lf 370 (some (.aload_n 0))))) (re_br 375 (re_br 373 (re_lf 371 (some (.bipush 28))) (re_lf 373 (some (.bipush 12)))) (re_br 376 (re_lf 375 (some (.iconst 0))) (re_lf 376 (some (.invokestatic 129)))))) (re_br 386 (re_br 382 (re_lf 379 (some (.ldc2_w 17))) (re_br 383 (re_lf 382 (some (.lcmp))) (re_lf 383 (some (.ifCond .ne 32))))) (re_br 389 (re_br 387 (re_lf 386 (some (.aload_n 0))) (re_lf 387 (some (.bipush 29)))) (re_br 390 (re_lf 389 (some (.iconst (-1)))) (re_lf 390 (some (.iconst 0))))))) (re_br 406 (re_br 398 (re_br 394 (re_lf 391 (some (.invokestatic 129))) (re_br 397 (re_lf 394 (some (.ldc2_w 17))) (re_lf 397 (some (.lcmp))))) (re_br 402 (re_br 401 (re_lf 398 (some (.ifCond .ne 17))) (re_lf 401 (some (.aload_n 0)))) (re_br 403 (re_lf 402 (some (.iload_n 1))) (re_lf 403 (some (.invokestatic 166)))))) (re_br 411 (re_br 407 (re_lf 406 (some (.lload_n 2))) (re_br 408 (re_lf 407 (some (.lcmp))) (re_lf 408 (some (.ifCond .ne 7))))) (re_br 415 (re_br 412 (re_lf 411 (some (.iconst 1))) (re_lf 412 (some (.goto 4)))) (re_br 416 (re_lf 415 (some (.iconst 0))) (re_lf 416 (some (.ireturn)))))))))))
def rI588 : Nat → Option Instr := (re_br 157 (re_br 74 (re_br 41 (re_br 20 (re_br 11 (re_br 4 (re_br 3 (re_lf 0 (some (.new 28))) (re_lf 3 (some (.dup)))) (re_br 7 (re_lf 4 (some (.invokespecial 170))) (re_br 8 (re_lf 7 (some (.astore_n 1))) (re_lf 8 (some (.new 28)))))) (re_br 16 (re_br 12 (re_lf 11 (some (.dup))) (re_br 15 (re_lf 12 (some (.invokespecial 170))) (re_lf 15 (some (.astore_n 2))))) (re_br 17 (re_lf 16 (some (.iconst 5))) (re_br 19 (re_lf 17 (some (.newarray .int))) (re_lf 19 (some (.astore_n 3))))))) (re_br 28 (re_br 22 (re_br 21 (re_lf 20 (some (.aload_n 1))) (re_lf 21 (some (.iconst 1)))) (re_br 25 (re_lf 22 (some (.invokestatic 171))) (re_br 27 (re_lf 25 (some (.istore 4))) (re_lf 27 (some (.iconst 0)))))) (re_br 33 (re_br 30 (re_lf 28 (some (.istore 5))) (re_br 32 (re_lf 30 (some (.iload 5))) (re_lf 32 (some (.iconst 3))))) (re_br 36 (re_lf 33 (some (.if_icmp .ge 44))) (re_br 38 (re_lf 36 (some (.iload 4))) (re_lf 38 (some (.ifCond .eq 39)))))))) (re_br 58 (re_br 47 (re_br 43 (re_br 42 (re_lf 41 (some (.aload_n 1))) (re_lf 42 (some (.aload_n 2)))) (re_br 45 (re_lf 43 (some (.bipush 9))) (re_br 46 (re_lf 45 (some (.iconst 0))) (re_lf 46 (some (.iconst 0)))))) (re_br 53 (re_br 50 (re_lf 47 (some (.invokestatic 156))) (re_br 52 (re_lf 50 (some (.iload 5))) (re_lf 52 (some (.i2l))))) (re_br 54 (re_lf 53 (some (.lcmp))) (re_br 57 (re_lf 54 (some (.ifCond .ne 7))) (re_lf 57 (some (.iconst 1))))))) (re_br 66 (re_br 62 (re_br 61 (re_lf 58 (some (.goto 4))) (re_lf 61 (some (.iconst 0)))) (re_br 64 (re_lf 62 (some (.istore 4))) (re_br 65 (re_lf 64 (some (.aload_n 3))) (re_lf 65 (some (.iconst 1)))))) (re_br 69 (re_br 67 (re_lf 66 (some (.dup2))) (re_br 68 (re_lf 67 (some (.iaload))) (re_lf 68 (some (.iconst 1))))) (re_br 70 (re_lf 69 (some (.iadd))) (re_br 71 (re_lf 70 (some (.iastore))) (re_lf 71 (some (.iinc 5 1))))))))) (re_br 114 (re_br 96 (re_br 84 (re_br 78 (re_br 77 (re_lf 74 (some (.goto (-44)))) (re_lf 77 (some (.iconst 0)))) (re_br 80 (re_lf 78 (some (.istore 5))) (re_br 82 (re_lf 80 (some (.iload 5))) (re_lf 82 (some (.bipush 80)))))) (re_br 92 (re_br 87 (re_lf 84 (some (.if_icmp .ge 175))) (re_br 89 (re_lf 87 (some (.iload 4))) (re_lf 89 (some (.ifCond .eq 170))))) (re_br 93 (re_lf 92 (some (.aload_n 0))) (re_br 94 (re_lf 93 (some (.iconst 2))) (re_lf 94 (some (.iload 5))))))) (re_br 104 (re_br 100 (re_br 97 (re_lf 96 (some (.imul))) (re_lf 97 (some (.invokestatic 175)))) (re_br 102 (re_lf 100 (some (.istore 6))) (re_br 103 (re_lf 102 (some (.aload_n 0))) (re_lf 103 (some (.iconst 2)))))) (re_br 108 (re_br 106 (re_lf 104 (some (.iload 5))) (re_br 107 (re_lf 106 (some (.imul))) (re_lf 107 (some (.iconst 1))))) (re_br 109 (re_lf 108 (some (.iadd))) (re_br 112 (re_lf 109 (some (.invokestatic 175))) (re_lf 112 (some (.istore 7)))))))) (re_br 135 (re_br 125 (re_br 118 (re_br 116 (re_lf 114 (some (.iload 6))) (re_lf 116 (some (.bipush 16)))) (re_br 121 (re_lf 118 (some (.invokestatic 153))) (re_br 123 (re_lf 121 (some (.istore 8))) (re_lf 123 (some (.iload 8)))))) (re_br 131 (re_br 127 (re_lf 125 (some (.bipush 9))) (re_br 130 (re_lf 127 (some (.if_icmp .ge 16))) (re_lf 130 (some (.aload_n 1))))) (re_br 132 (re_lf 131 (some (.aload_n 2))) (re_br 133 (re_lf 132 (some (.aload_n 3))) (re_lf 133 (some (.iload 7))))))) (re_br 150 (re_br 143 (re_br 138 (re_lf 135 (some (.invokestatic 178))) (re_br 140 (re_lf 138 (some (.istore 4))) (re_lf 140 (some (.goto 41))))) (re_br 145 (re_lf 143 (some (.iload 8))) (re_br 147 (re_lf 145 (some (.bipush 13))) (re_lf 147 (some (.if_icmp .ge 20)))))) (re_br 153 (re_br 151 (re_lf 150 (some (.aload_n 1))) (re_br 152 (re_lf 151 (some (.aload_n 2))) (re_lf 152 (some (.aload_n 3))))) (re_br 155 (re_lf 153 (some (.iload 6))) (re_br 156 (re_lf 155 (some (.iconst 4))) (re_lf 156 (some (.ishr)))))))))) (re_br 230 (re_br 197 (re_br 176 (re_br 168 (re_br 162 (re_br 159 (re_lf 157 (some (.iload 7))) (re_lf 159 (some (.invokestatic 182)))) (re_br 164 (re_lf 162 (some (.istore 4))) (re_br 167 (re_lf 164 (some (.goto 17))) (re_lf 167 (some (.aload_n 1)))))) (re_br 172 (re_br 169 (re_lf 168 (some (.aload_n 2))) (re_br 170 (re_lf 169 (some (.aload_n 3))) (re_lf 170 (some (.iload 6))))) (re_br 173 (re_lf 172 (some (.iconst 4))) (re_br 174 (re_lf 173 (some (.ishr))) (re_lf 174 (some (.iload 7))))))) (re_br 188 (re_br 181 (re_br 179 (re_lf 176 (some (.invokestatic 186))) (re_lf 179 (some (.istore 4)))) (re_br 183 (re_lf 181 (some (.iload 4))) (re_br 186 (re_lf 183 (some (.ifCond .eq 67))) (re_lf 186 (some (.iload 5)))))) (re_br 194 (re_br 190 (re_lf 188 (some (.bipush 6))) (re_br 191 (re_lf 190 (some (.irem))) (re_lf 191 (some (.ifCond .gt 37))))) (re_br 195 (re_lf 194 (some (.aload_n 1))) (re_br 196 (re_lf 195 (some (.aload_n 3))) (re_lf 196 (some (.iconst 1)))))))) (re_br 214 (re_br 204 (re_br 201 (re_br 198 (re_lf 197 (some (.iaload))) (re_lf 198 (some (.invokestatic 166)))) (re_br 202 (re_lf 201 (some (.aload_n 2))) (re_br 203 (re_lf 202 (some (.aload_n 3))) (re_lf 203 (some (.iconst 1)))))) (re_br 209 (re_br 205 (re_lf 204 (some (.iaload))) (re_br 208 (re_lf 205 (some (.invokestatic 166))) (re_lf 208 (some (.lcmp))))) (re_br 212 (re_lf 209 (some (.ifCond .ne 41))) (re_br 213 (re_lf 212 (some (.aload_n 1))) (re_lf 213 (some (.aload_n 3))))))) (re_br 219 (re_br 216 (re_br 215 (re_lf 214 (some (.iconst 1))) (re_lf 215 (some (.iaload)))) (re_br 217 (re_lf 216 (some (.aload_n 3))) (re_br 218 (re_lf 217 (some (.iconst 2))) (re_lf 218 (some (.iaload)))))) (re_br 222 (re_br 220 (re_lf 219 (some (.aload_n 3))) (re_br 221 (re_lf 220 (some (.iconst 4))) (re_lf 221 (some (.iaload))))) (re_br 225 (re_lf 222 (some (.invokestatic 189))) (re_br 228 (re_lf 225 (some (.ifCond .eq 25))) (re_lf 228 (some (.iload 5))))))))) (re_br 271 (re_br 250 (re_br 238 (re_br 233 (re_br 232 (re_lf 230 (some (.bipush 30))) (re_lf 232 (some (.irem)))) (re_br 236 (re_lf 233 (some (.ifCond .gt 13))) (re_br 237 (re_lf 236 (some (.aload_n 1))) (re_lf 237 (some (.aload_n 3)))))) (re_br 243 (re_br 239 (re_lf 238 (some (.iconst 1))) (re_br 240 (re_lf 239 (some (.iaload))) (re_lf 240 (some (.invokestatic 171))))) (re_br 246 (re_lf 243 (some (.ifCond .eq 7))) (re_br 247 (re_lf 246 (some (.iconst 1))) (re_lf 247 (some (.goto 4))))))) (re_br 261 (re_br 253 (re_br 251 (re_lf 250 (some (.iconst 0))) (re_lf 251 (some (.istore 4)))) (re_br 256 (re_lf 253 (some (.iinc 5 1))) (re_br 259 (re_lf 256 (some (.goto (-176)))) (re_lf 259 (some (.iload 4)))))) (re_br 266 (re_br 264 (re_lf 261 (some (.ifCond .eq 41))) (re_br 265 (re_lf 264 (some (.aload_n 1))) (re_lf 265 (some (.aload_n 3))))) (re_br 267 (re_lf 266 (some (.iconst 1))) (re_br 268 (re_lf 267 (some (.iaload))) (re_lf 268 (some (.invokestatic 166)))))))) (re_br 286 (re_br 278 (re_br 273 (re_br 272 (re_lf 271 (some (.aload_n 2))) (re_lf 272 (some (.aload_n 3)))) (re_br 274 (re_lf 273 (some (.iconst 1))) (re_br 275 (re_lf 274 (some (.iaload))) (re_lf 275 (some (.invokestatic 166)))))) (re_br 283 (re_br 279 (re_lf 278 (some (.lcmp))) (re_br 282 (re_lf 279 (some (.ifCond .ne 23))) (re_lf 282 (some (.aload_n 1))))) (re_br 284 (re_lf 283 (some (.aload_n 3))) (re_br 285 (re_lf 284 (some (.iconst 1))) (re_lf 285 (some (.iaload))))))) (re_br 292 (re_br 289 (re_br 287 (re_lf 286 (some (.aload_n 3))) (re_br 288 (re_lf 287 (some (.iconst 2))) (re_lf 288 (some (.iaload))))) (re_br 290 (re_lf 289 (some (.aload_n 3))) (re_br 291 (re_lf 290 (some (.iconst 4))) (re_lf 291 (some (.iaload)))))) (re_br 299 (re_br 295 (re_lf 292 (some (.invokestatic 189))) (re_br 298 (re_lf 295 (some (.ifCond .eq 7))) (re_lf 298 (some (.iconst 1))))) (re_br 302 (re_lf 299 (some (.goto 4))) (re_br 303 (re_lf 302 (some (.iconst 0))) (re_lf 303 (some (.ireturn)))))))))))
def rI640 : Nat → Option Instr := (re_br 179 (re_br 85 (re_br 40 (re_br 19 (re_br 9 (re_br 4 (re_br 1 (re_lf 0 (some (.aload_n 0))) (re_lf 1 (some (.invokespecial 1)))) (re_br 5 (re_lf 4 (some (.aload_n 0))) (re_br 6 (re_lf 5 (some (.iload_n 1))) (re_lf 6 (some (.putfield 7)))))) (re_br 14 (re_br 10 (re_lf 9 (some (.aload_n 0))) (re_br 11 (re_lf 10 (some (.iload_n 2))) (re_lf 11 (some (.putfield 13))))) (re_br 15 (re_lf 14 (some (.aload_n 0))) (re_br 16 (re_lf 15 (some (.lload_n 3))) (re_lf 16 (some (.putfield 16))))))) (re_br 28 (re_br 22 (re_br 20 (re_lf 19 (some (.aload_n 0))) (re_lf 20 (some (.aload 5)))) (re_br 25 (re_lf 22 (some (.putfield 20))) (re_br 26 (re_lf 25 (some (.aload_n 0))) (re_lf 26 (some (.aload 6)))))) (re_br 34 (re_br 31 (re_lf 28 (some (.putfield 24))) (re_br 32 (re_lf 31 (some (.aload_n 0))) (re_lf 32 (some (.aload 7))))) (re_br 37 (re_lf 34 (some (.putfield 27))) (re_br 38 (re_lf 37 (some (.iload_n 1))) (re_lf 38 (some (.bipush 6)))))))) (re_br 61 (re_br 50 (re_br 44 (re_br 43 (re_lf 40 (some (.if_icmp .eq 9))) (re_lf 43 (some (.iload_n 1)))) (re_br 46 (re_lf 44 (some (.bipush 7))) (re_br 49 (re_lf 46 (some (.if_icmp .ne 7))) (re_lf 49 (some (.iconst 1)))))) (re_br 56 (re_br 53 (re_lf 50 (some (.goto 4))) (re_br 54 (re_lf 53 (some (.iconst 0))) (re_lf 54 (some (.istore 8))))) (re_br 57 (re_lf 56 (some (.iload_n 1))) (re_br 58 (re_lf 57 (some (.iconst 1))) (re_lf 58 (some (.if_icmp .eq 8))))))) (re_br 72 (re_br 67 (re_br 63 (re_lf 61 (some (.iload 8))) (re_br 66 (re_lf 63 (some (.ifCond .eq 9))) (re_lf 66 (some (.iconst 1))))) (re_br 68 (re_lf 67 (some (.iload_n 2))) (re_br 69 (re_lf 68 (some (.ishl))) (re_lf 69 (some (.goto 4)))))) (re_br 77 (re_br 73 (re_lf 72 (some (.iconst 0))) (re_br 75 (re_lf 73 (some (.istore 9))) (re_lf 75 (some (.iload 8))))) (re_br 80 (re_lf 77 (some (.ifCond .eq 8))) (re_br 82 (re_lf 80 (some (.iload 9))) (re_lf 82 (some (.goto 4))))))))) (re_br 131 (re_br 105 (re_br 92 (re_br 88 (re_br 86 (re_lf 85 (some (.iconst 0))) (re_lf 86 (some (.istore 10)))) (re_br 89 (re_lf 88 (some (.aload_n 0))) (re_br 90 (re_lf 89 (some (.iconst 1))) (re_lf 90 (some (.aload 5)))))) (re_br 99 (re_br 95 (re_lf 92 (some (.ifnonnull 7))) (re_br 96 (re_lf 95 (some (.iconst 0))) (re_lf 96 (some (.goto 8))))) (re_br 101 (re_lf 99 (some (.aload 5))) (re_br 104 (re_lf 101 (some (.getfield 30))) (re_lf 104 (some (.iadd))))))) (re_br 119 (re_br 111 (re_br 107 (re_lf 105 (some (.aload 6))) (re_br 110 (re_lf 107 (some (.ifnonnull 7))) (re_lf 110 (some (.iconst 0))))) (re_br 114 (re_lf 111 (some (.goto 8))) (re_br 116 (re_lf 114 (some (.aload 6))) (re_lf 116 (some (.getfield 30)))))) (re_br 125 (re_br 120 (re_lf 119 (some (.iadd))) (re_br 122 (re_lf 120 (some (.aload 7))) (re_lf 122 (some (.ifnonnull 7))))) (re_br 126 (re_lf 125 (some (.iconst 0))) (re_br 129 (re_lf 126 (some (.goto 8))) (re_lf 129 (some (.aload 7)))))))) (re_br 152 (re_br 140 (re_br 135 (re_br 134 (re_lf 131 (some (.getfield 30))) (re_lf 134 (some (.iadd)))) (re_br 138 (re_lf 135 (some (.putfield 30))) (re_br 139 (re_lf 138 (some (.aload_n 0))) (re_lf 139 (some (.iload_n 1)))))) (re_br 146 (re_br 141 (re_lf 140 (some (.iconst 1))) (re_br 144 (re_lf 141 (some (.if_icmp .ne 8))) (re_lf 144 (some (.iload 9))))) (re_br 149 (re_lf 146 (some (.goto 4))) (re_br 150 (re_lf 149 (some (.iconst 0))) (re_lf 150 (some (.aload 5))))))) (re_br 165 (re_br 159 (re_br 155 (re_lf 152 (some (.ifnonnull 7))) (re_br 156 (re_lf 155 (some (.iconst 0))) (re_lf 156 (some (.goto 8))))) (re_br 161 (re_lf 159 (some (.aload 5))) (re_br 164 (re_lf 161 (some (.getfield 33))) (re_lf 164 (some (.ior)))))) (re_br 171 (re_br 167 (re_lf 165 (some (.aload 6))) (re_br 170 (re_lf 167 (some (.ifnonnull 7))) (re_lf 170 (some (.iconst 0))))) (re_br 174 (re_lf 171 (some (.goto 13))) (re_br 176 (re_lf 174 (some (.aload 6))) (re_lf 176 (some (.getfield 33)))))))))) (re_br 267 (re_br 223 (re_br 199 (re_br 185 (re_br 182 (re_br 181 (re_lf 179 (some (.iload 10))) (re_lf 181 (some (.iconst (-1))))) (re_br 183 (re_lf 182 (some (.ixor))) (re_br 184 (re_lf 183 (some (.iand))) (re_lf 184 (some (.ior)))))) (re_br 191 (re_br 187 (re_lf 185 (some (.aload 7))) (re_br 190 (re_lf 187 (some (.ifnonnull 7))) (re_lf 190 (some (.iconst 0))))) (re_br 194 (re_lf 191 (some (.goto 8))) (re_br 196 (re_lf 194 (some (.aload 7))) (re_lf 196 (some (.getfield 33))))))) (re_br 211 (re_br 204 (re_br 200 (re_lf 199 (some (.ior))) (re_br 203 (re_lf 200 (some (.putfield 33))) (re_lf 203 (some (.aload_n 0))))) (re_br 206 (re_lf 204 (some (.iload 9))) (re_br 208 (re_lf 206 (some (.aload 5))) (re_lf 208 (some (.ifnonnull 7)))))) (re_br 217 (re_br 212 (re_lf 211 (some (.iconst 0))) (re_br 215 (re_lf 212 (some (.goto 8))) (re_lf 215 (some (.aload 5))))) (re_br 220 (re_lf 217 (some (.getfield 36))) (re_br 221 (re_lf 220 (some (.ior))) (re_lf 221 (some (.aload 6)))))))) (re_br 247 (re_br 235 (re_br 227 (re_br 226 (re_lf 223 (some (.ifnonnull 7))) (re_lf 226 (some (.iconst 0)))) (re_br 230 (re_lf 227 (some (.goto 8))) (re_br 232 (re_lf 230 (some (.aload 6))) (re_lf 232 (some (.getfield 36)))))) (re_br 241 (re_br 236 (re_lf 235 (some (.ior))) (re_br 238 (re_lf 236 (some (.aload 7))) (re_lf 238 (some (.ifnonnull 7))))) (re_br 242 (re_lf 241 (some (.iconst 0))) (re_br 245 (re_lf 242 (some (.goto 8))) (re_lf 245 (some (.aload 7))))))) (re_br 257 (re_br 254 (re_br 250 (re_lf 247 (some (.getfield 36))) (re_br 251 (re_lf 250 (some (.ior))) (re_lf 251 (some (.putfield 36))))) (re_br 255 (re_lf 254 (some (.aload_n 0))) (re_br 256 (re_lf 255 (some (.iload_n 1))) (re_lf 256 (some (.iconst 2)))))) (re_br 262 (re_br 260 (re_lf 257 (some (.if_icmp .ne 9))) (re_br 261 (re_lf 260 (some (.iconst 1))) (re_lf 261 (some (.iload_n 2))))) (re_br 263 (re_lf 262 (some (.ishl))) (re_br 266 (re_lf 263 (some (.goto 4))) (re_lf 266 (some (.iconst 0))))))))) (re_br 316 (re_br 291 (re_br 278 (re_br 272 (re_br 269 (re_lf 267 (some (.aload 5))) (re_lf 269 (some (.ifnonnull 7)))) (re_br 273 (re_lf 272 (some (.iconst 0))) (re_br 276 (re_lf 273 (some (.goto 8))) (re_lf 276 (some (.aload 5)))))) (re_br 284 (re_br 281 (re_lf 278 (some (.getfield 39))) (re_br 282 (re_lf 281 (some (.ior))) (re_lf 282 (some (.aload 6))))) (re_br 287 (re_lf 284 (some (.ifnonnull 7))) (re_br 288 (re_lf 287 (some (.iconst 0))) (re_lf 288 (some (.goto 8))))))) (re_br 303 (re_br 297 (re_br 293 (re_lf 291 (some (.aload 6))) (re_br 296 (re_lf 293 (some (.getfield 39))) (re_lf 296 (some (.ior))))) (re_br 299 (re_lf 297 (some (.aload 7))) (re_br 302 (re_lf 299 (some (.ifnonnull 7))) (re_lf 302 (some (.iconst 0)))))) (re_br 311 (re_br 306 (re_lf 303 (some (.goto 8))) (re_br 308 (re_lf 306 (some (.aload 7))) (re_lf 308 (some (.getfield 39))))) (re_br 312 (re_lf 311 (some (.ior))) (re_br 315 (re_lf 312 (some (.putfield 39))) (re_lf 315 (some (.aload_n 0)))))))) (re_br 341 (re_br 326 (re_br 318 (re_br 317 (re_lf 316 (some (.iload_n 1))) (re_lf 317 (some (.iconst 3)))) (re_br 321 (re_lf 318 (some (.if_icmp .eq 42))) (re_br 323 (re_lf 321 (some (.aload 5))) (re_lf 323 (some (.ifnull 11)))))) (re_br 334 (re_br 328 (re_lf 326 (some (.aload 5))) (re_br 331 (re_lf 328 (some (.getfield 42))) (re_lf 331 (some (.ifCond .ne 29))))) (re_br 336 (re_lf 334 (some (.aload 6))) (re_br 339 (re_lf 336 (some (.ifnull 11))) (re_lf 339 (some (.aload 6))))))) (re_br 357 (re_br 349 (re_br 344 (re_lf 341 (some (.getfield 42))) (re_br 347 (re_lf 344 (some (.ifCond .ne 16))) (re_lf 347 (some (.aload 7))))) (re_br 352 (re_lf 349 (some (.ifnull 15))) (re_br 354 (re_lf 352 (some (.aload 7))) (re_lf 354 (some (.getfield 42)))))) (re_br 364 (re_br 360 (re_lf 357 (some (.ifCond .eq 7))) (re_br 361 (re_lf 360 (some (.iconst 1))) (re_lf 361 (some (.goto 4))))) (re_br 365 (re_lf 364 (some (.iconst 0))) (re_br 368 (re_lf 365 (some (.putfield 42))) (re_lf 368 (some (.return_)))))))))))
def rI641 : Nat → Option Instr := (re_br 44 (re_br 18 (re_br 8 (re_br 5 (re_br 1 (re_lf 0 (some (.aload_n 0))) (re_br 2 (re_lf 1 (some (.aload_n 1))) (re_lf 2 (some (.if_acmp .ne 5))))) (re_br 6 (re_lf 5 (some (.iconst 1))) (re_br 7 (re_lf 6 (some (.ireturn))) (re_lf 7 (some (.aload_n 0)))))) (re_br 15 (re_br 11 (re_lf 8 (some (.ifnull 7))) (re_br 12 (re_lf 11 (some (.aload_n 1))) (re_lf 12 (some (.ifnonnull 5))))) (re_br 16 (re_lf 15 (some (.iconst 0))) (re_br 17 (re_lf 16 (some (.ireturn))) (re_lf 17 (some (.aload_n 0))))))) (re_br 32 (re_br 25 (re_br 21 (re_lf 18 (some (.getfield 7))) (re_br 22 (re_lf 21 (some (.aload_n 1))) (re_lf 22 (some (.getfield 7))))) (re_br 28 (re_lf 25 (some (.if_icmp .ne 72))) (re_br 29 (re_lf 28 (some (.aload_n 0))) (re_lf 29 (some (.getfield 13)))))) (re_br 39 (re_br 33 (re_lf 32 (some (.aload_n 1))) (re_br 36 (re_lf 33 (some (.getfield 13))) (re_lf 36 (some (.if_icmp .ne 61))))) (re_br 40 (re_lf 39 (some (.aload_n 0))) (re_br 43 (re_lf 40 (some (.getfield 16))) (re_lf 43 (some (.aload_n 1)))))))) (re_br 70 (re_br 56 (re_br 51 (re_br 47 (re_lf 44 (some (.getfield 16))) (re_br 48 (re_lf 47 (some (.lcmp))) (re_lf 48 (some (.ifCond .ne 49))))) (re_br 52 (re_lf 51 (some (.aload_n 0))) (re_br 55 (re_lf 52 (some (.getfield 20))) (re_lf 55 (some (.aload_n 1)))))) (re_br 65 (re_br 59 (re_lf 56 (some (.getfield 20))) (re_br 62 (re_lf 59 (some (.invokestatic 46))) (re_lf 62 (some (.ifCond .eq 35))))) (re_br 66 (re_lf 65 (some (.aload_n 0))) (re_br 69 (re_lf 66 (some (.getfield 24))) (re_lf 69 (some (.aload_n 1))))))) (re_br 84 (re_br 79 (re_br 73 (re_lf 70 (some (.getfield 24))) (re_br 76 (re_lf 73 (some (.invokestatic 46))) (re_lf 76 (some (.ifCond .eq 21))))) (re_br 80 (re_lf 79 (some (.aload_n 0))) (re_br 83 (re_lf 80 (some (.getfield 27))) (re_lf 83 (some (.aload_n 1)))))) (re_br 93 (re_br 87 (re_lf 84 (some (.getfield 27))) (re_br 90 (re_lf 87 (some (.invokestatic 46))) (re_lf 90 (some (.ifCond .eq 7))))) (re_br 97 (re_br 94 (re_lf 93 (some (.iconst 1))) (re_lf 94 (some (.goto 4)))) (re_br 98 (re_lf 97 (some (.iconst 0))) (re_lf 98 (some (.ireturn)))))))))
def rI642 : Nat → Option Instr := (re_br 41 (re_br 19 (re_br 9 (re_br 4 (re_br 1 (re_lf 0 (some (.aload_n 0))) (re_lf 1 (some (.ifnull 11)))) (re_br 5 (re_lf 4 (some (.aload_n 0))) (re_br 6 (re_lf 5 (some (.iload_n 1))) (re_lf 6 (some (.invokevirtual 50)))))) (re_br 14 (re_br 12 (re_lf 9 (some (.ifCond .ne 5))) (re_br 13 (re_lf 12 (some (.iconst 0))) (re_lf 13 (some (.ireturn))))) (re_br 15 (re_lf 14 (some (.aload_n 0))) (re_br 18 (re_lf 15 (some (.getfield 7))) (re_lf 18 (some (.iconst 1))))))) (re_br 28 (re_br 23 (re_br 22 (re_lf 19 (some (.if_icmp .ne 5))) (re_lf 22 (some (.iconst 1)))) (re_br 24 (re_lf 23 (some (.ireturn))) (re_br 25 (re_lf 24 (some (.aload_n 0))) (re_lf 25 (some (.getfield 7)))))) (re_br 34 (re_br 30 (re_lf 28 (some (.bipush 6))) (re_br 33 (re_lf 30 (some (.if_icmp .ne 15))) (re_lf 33 (some (.aload_n 0))))) (re_br 37 (re_lf 34 (some (.getfield 13))) (re_br 38 (re_lf 37 (some (.iload_n 1))) (re_lf 38 (some (.if_icmp .ne 7)))))))) (re_br 60 (re_br 48 (re_br 45 (re_br 42 (re_lf 41 (some (.iconst 1))) (re_lf 42 (some (.goto 4)))) (re_br 46 (re_lf 45 (some (.iconst 0))) (re_br 47 (re_lf 46 (some (.istore_n 2))) (re_lf 47 (some (.aload_n 0)))))) (re_br 55 (re_br 51 (re_lf 48 (some (.getfield 20))) (re_br 52 (re_lf 51 (some (.iload_n 1))) (re_lf 52 (some (.invokestatic 54))))) (re_br 56 (re_lf 55 (some (.iload_n 2))) (re_br 59 (re_lf 56 (some (.ifCond .eq 7))) (re_lf 59 (some (.iconst 0))))))) (re_br 72 (re_br 67 (re_br 63 (re_lf 60 (some (.goto 11))) (re_br 64 (re_lf 63 (some (.aload_n 0))) (re_lf 64 (some (.getfield 24))))) (re_br 68 (re_lf 67 (some (.iload_n 1))) (re_br 71 (re_lf 68 (some (.invokestatic 54))) (re_lf 71 (some (.iadd)))))) (re_br 77 (re_br 73 (re_lf 72 (some (.aload_n 0))) (re_br 76 (re_lf 73 (some (.getfield 27))) (re_lf 76 (some (.iload_n 1))))) (re_br 80 (re_lf 77 (some (.invokestatic 54))) (re_br 81 (re_lf 80 (some (.iadd))) (re_lf 81 (some (.ireturn)))))))))
def rI643 : Nat → Option Instr := (re_br 8 (re_br 5 (re_br 1 (re_lf 0 (some (.aload_n 0))) (re_br 4 (re_lf 1 (some (.getfield 33))) (re_lf 4 (some (.iload_n 1))))) (re_br 6 (re_lf 5 (some (.ishr))) (re_br 7 (re_lf 6 (some (.iconst 1))) (re_lf 7 (some (.iand)))))) (re_br 13 (re_br 9 (re_lf 8 (some (.iconst 1))) (re_br 12 (re_lf 9 (some (.if_icmp .ne 7))) (re_lf 12 (some (.iconst 1))))) (re_br 16 (re_lf 13 (some (.goto 4))) (re_br 17 (re_lf 16 (some (.iconst 0))) (re_lf 17 (some (.ireturn)))))))
def rI644 : Nat → Option Instr := (re_br 57 (re_br 28 (re_br 14 (re_br 6 (re_br 4 (re_br 1 (re_lf 0 (some (.aload_n 0))) (re_lf 1 (some (.ifnull 11)))) (re_br 5 (re_lf 4 (some (.aload_n 0))) (re_lf 5 (some (.iload_n 1))))) (re_br 12 (re_br 9 (re_lf 6 (some (.invokevirtual 50))) (re_lf 9 (some (.ifCond .ne 5)))) (re_br 13 (re_lf 12 (some (.aload_n 0))) (re_lf 13 (some (.areturn)))))) (re_br 22 (re_br 18 (re_br 15 (re_lf 14 (some (.aload_n 0))) (re_lf 15 (some (.getfield 7)))) (re_br 19 (re_lf 18 (some (.iconst 1))) (re_lf 19 (some (.if_icmp .ne 17))))) (re_br 26 (re_br 25 (re_lf 22 (some (.new 8))) (re_lf 25 (some (.dup)))) (re_br 27 (re_lf 26 (some (.iconst 1))) (re_lf 27 (some (.iload_n 2))))))) (re_br 40 (re_br 32 (re_br 30 (re_br 29 (re_lf 28 (some (.lconst 0))) (re_lf 29 (some (.aconst_null)))) (re_br 31 (re_lf 30 (some (.aconst_null))) (re_lf 31 (some (.aconst_null))))) (re_br 36 (re_br 35 (re_lf 32 (some (.invokespecial 58))) (re_lf 35 (some (.areturn)))) (re_br 37 (re_lf 36 (some (.aload_n 0))) (re_lf 37 (some (.getfield 7)))))) (re_br 49 (re_br 45 (re_br 42 (re_lf 40 (some (.bipush 6))) (re_lf 42 (some (.if_icmp .ne 15)))) (re_br 46 (re_lf 45 (some (.aload_n 0))) (re_lf 46 (some (.getfield 13))))) (re_br 53 (re_br 50 (re_lf 49 (some (.iload_n 1))) (re_lf 50 (some (.if_icmp .ne 7)))) (re_br 54 (re_lf 53 (some (.iconst 1))) (re_lf 54 (some (.goto 4)))))))) (re_br 85 (re_br 71 (re_br 63 (re_br 59 (re_br 58 (re_lf 57 (some (.iconst 0))) (re_lf 58 (some (.istore_n 3)))) (re_br 62 (re_lf 59 (some (.new 8))) (re_lf 62 (some (.dup))))) (re_br 67 (re_br 64 (re_lf 63 (some (.aload_n 0))) (re_lf 64 (some (.getfield 7)))) (re_br 68 (re_lf 67 (some (.aload_n 0))) (re_lf 68 (some (.getfield 13)))))) (re_br 79 (re_br 75 (re_br 72 (re_lf 71 (some (.aload_n 0))) (re_lf 72 (some (.getfield 16)))) (re_br 76 (re_lf 75 (some (.aload_n 0))) (re_lf 76 (some (.getfield 20))))) (re_br 81 (re_br 80 (re_lf 79 (some (.iload_n 1))) (re_lf 80 (some (.iload_n 2)))) (re_br 84 (re_lf 81 (some (.invokestatic 61))) (re_lf 84 (some (.iload_n 3))))))) (re_br 101 (re_br 95 (re_br 89 (re_br 88 (re_lf 85 (some (.ifCond .eq 10))) (re_lf 88 (some (.aload_n 0)))) (re_br 92 (re_lf 89 (some (.getfield 24))) (re_lf 92 (some (.goto 12))))) (re_br 99 (re_br 96 (re_lf 95 (some (.aload_n 0))) (re_lf 96 (some (.getfield 24)))) (re_br 100 (re_lf 99 (some (.iload_n 1))) (re_lf 100 (some (.iload_n 2)))))) (re_br 109 (re_br 105 (re_br 104 (re_lf 101 (some (.invokestatic 61))) (re_lf 104 (some (.aload_n 0)))) (re_br 108 (re_lf 105 (some (.getfield 27))) (re_lf 108 (some (.iload_n 1))))) (re_br 113 (re_br 110 (re_lf 109 (some (.iload_n 2))) (re_lf 110 (some (.invokestatic 61)))) (re_br 116 (re_lf 113 (some (.invokespecial 58))) (re_lf 116 (some (.areturn)))))))))
def rI704 : Nat → Option Instr := (re_br 1 (re_lf 0 (some (.aload_n 0))) (re_br 4 (re_lf 1 (some (.invokespecial 1))) (re_lf 4 (some (.return_)))))
def rI768 : Nat → Option Instr := (re_br 27 (re_br 14 (re_br 7 (re_br 2 (re_br 1 (re_lf 0 (some (.iload_n 0))) (re_lf 1 (some (.iload_n 0)))) (re_br 3 (re_lf 2 (some (.iconst 1))) (re_br 4 (re_lf 3 (some (.iushr))) (re_lf 4 (some (.ldc_w 265)))))) (re_br 9 (re_br 8 (re_lf 7 (some (.iand))) (re_lf 8 (some (.isub)))) (re_br 10 (re_lf 9 (some (.istore_n 0))) (re_br 11 (re_lf 10 (some (.iload_n 0))) (re_lf 11 (some (.ldc_w 266))))))) (re_br 21 (re_br 16 (re_br 15 (re_lf 14 (some (.iand))) (re_lf 15 (some (.iload_n 0)))) (re_br 17 (re_lf 16 (some (.iconst 2))) (re_br 18 (re_lf 17 (some (.iushr))) (re_lf 18 (some (.ldc_w 266)))))) (re_br 24 (re_br 22 (re_lf 21 (some (.iand))) (re_br 23 (re_lf 22 (some (.iadd))) (re_lf 23 (some (.istore_n 0))))) (re_br 25 (re_lf 24 (some (.iload_n 0))) (re_br 26 (re_lf 25 (some (.iload_n 0))) (re_lf 26 (some (.iconst 4)))))))) (re_br 40 (re_br 34 (re_br 29 (re_br 28 (re_lf 27 (some (.iushr))) (re_lf 28 (some (.iadd)))) (re_br 32 (re_lf 29 (some (.ldc_w 267))) (re_br 33 (re_lf 32 (some (.iand))) (re_lf 33 (some (.istore_n 0)))))) (re_br 36 (re_br 35 (re_lf 34 (some (.iload_n 0))) (re_lf 35 (some (.iload_n 0)))) (re_br 38 (re_lf 36 (some (.bipush 8))) (re_br 39 (re_lf 38 (some (.iushr))) (re_lf 39 (some (.iadd))))))) (re_br 46 (re_br 42 (re_br 41 (re_lf 40 (some (.istore_n 0))) (re_lf 41 (some (.iload_n 0)))) (re_br 43 (re_lf 42 (some (.iload_n 0))) (re_br 45 (re_lf 43 (some (.bipush 16))) (re_lf 45 (some (.iushr)))))) (re_br 49 (re_br 47 (re_lf 46 (some (.iadd))) (re_br 48 (re_lf 47 (some (.istore_n 0))) (re_lf 48 (some (.iload_n 0))))) (re_br 51 (re_lf 49 (some (.bipush 63))) (re_br 52 (re_lf 51 (some (.iand))) (re_lf 52 (some (.ireturn)))))))))
def rIns (y : Nat) : Nat → Option Instr := ((re_br 256 (re_br 33 (re_br 16 (re_br 8 (re_br 4 (re_br 2 (re_br 1 (re_lf 0 (some rI0)) (re_lf 1 (some rI1))) (re_br 3 (re_lf 2 (some rI2)) (re_lf 3 (some rI3)))) (re_br 6 (re_br 5 (re_lf 4 (some rI4)) (re_lf 5 (some rI5))) (re_br 7 (re_lf 6 (some rI6)) (re_lf 7 (some rI7))))) (re_br 12 (re_br 10 (re_br 9 (re_lf 8 (some rI8)) (re_lf 9 (some rI9))) (re_br 11 (re_lf 10 (some rI10)) (re_lf 11 (some rI11)))) (re_br 14 (re_br 13 (re_lf 12 (some rI12)) (re_lf 13 (some rI13))) (re_br 15 (re_lf 14 (some rI14)) (re_lf 15 (some rI15)))))) (re_br 24 (re_br 20 (re_br 18 (re_br 17 (re_lf 16 (some rI16)) (re_lf 17 (some rI17))) (re_br 19 (re_lf 18 (some rI18)) (re_lf 19 (some rI19)))) (re_br 22 (re_br 21 (re_lf 20 (some rI20)) (re_lf 21 (some rI21))) (re_br 23 (re_lf 22 (some rI22)) (re_lf 23 (some rI23))))) (re_br 28 (re_br 26 (re_br 25 (re_lf 24 (some rI24)) (re_lf 25 (some rI25))) (re_br 27 (re_lf 26 (some rI26)) (re_lf 27 (some rI27)))) (re_br 30 (re_br 29 (re_lf 28 (some rI28)) (re_lf 29 (some rI29))) (re_br 31 (re_lf 30 (some rI30)) (re_br 32 (re_lf 31 (some rI31)) (re_lf 32 (some rI32)))))))) (re_br 130 (re_br 65 (re_br 37 (re_br 35 (re_br 34 (re_lf 33 (some rI33)) (re_lf 34 (some rI34))) (re_br 36 (re_lf 35 (some rI35)) (re_lf 36 (some rI36)))) (re_br 39 (re_br 38 (re_lf 37 (some rI37)) (re_lf 38 (some rI38))) (re_br 64 (re_lf 39 (some rI39)) (re_lf 64 (some rI64))))) (re_br 69 (re_br 67 (re_br 66 (re_lf 65 (some rI65)) (re_lf 66 (some rI66))) (re_br 68 (re_lf 67 (some rI67)) (re_lf 68 (some rI68)))) (re_br 71 (re_br 70 (re_lf 69 (some rI69)) (re_lf 70 (some rI70))) (re_br 128 (re_lf 71 (some rI71)) (re_br 129 (re_lf 128 (some rI128)) (re_lf 129 (some rI129))))))) (re_br 138 (re_br 134 (re_br 132 (re_br 131 (re_lf 130 (some rI130)) (re_lf 131 (some rI131))) (re_br 133 (re_lf 132 (some rI132)) (re_lf 133 (some rI133)))) (re_br 136 (re_br 135 (re_lf 134 (some rI134)) (re_lf 135 (some rI135))) (re_br 137 (re_lf 136 (some rI136)) (re_lf 137 (some rI137))))) (re_br 193 (re_br 140 (re_br 139 (re_lf 138 (some rI138)) (re_lf 139 (some rI139))) (re_br 192 (re_lf 140 (some rI140)) (re_lf 192 (some rI192)))) (re_br 195 (re_br 194 (re_lf 193 (some rI193)) (re_lf 194 (some rI194))) (re_br 196 (re_lf 195 (some rI195)) (re_br 197 (re_lf 196 (some rI196)) (re_lf 197 (some rI197))))))))) (re_br 463 (re_br 387 (re_br 327 (re_br 323 (re_br 321 (re_br 320 (re_lf 256 (some rI256)) (re_lf 320 (some rI320))) (re_br 322 (re_lf 321 (some rI321)) (re_lf 322 (some rI322)))) (re_br 325 (re_br 324 (re_lf 323 (some rI323)) (re_lf 324 (some rI324))) (re_br 326 (re_lf 325 (some rI325)) (re_lf 326 (some rI326))))) (re_br 331 (re_br 329 (re_br 328 (re_lf 327 (some rI327)) (re_lf 328 (some rI328))) (re_br 330 (re_lf 329 (some rI329)) (re_lf 330 (some rI330)))) (re_br 384 (re_br 332 (re_lf 331 (some rI331)) (re_lf 332 (some rI332))) (re_br 385 (re_lf 384 (some rI384)) (re_br 386 (re_lf 385 (some rI385)) (re_lf 386 (some rI386))))))) (re_br 454 (re_br 450 (re_br 448 (re_br 388 (re_lf 387 (some rI387)) (re_lf 388 (some rI388))) (re_br 449 (re_lf 448 (some rI448)) (re_lf 449 (some rI449)))) (re_br 452 (re_br 451 (re_lf 450 (some rI450)) (re_lf 451 (some rI451))) (re_br 453 (re_lf 452 (some rI452)) (re_lf 453 (some rI453))))) (re_br 458 (re_br 456 (re_br 455 (re_lf 454 (some rI454)) (re_lf 455 (some rI455))) (re_br 457 (re_lf 456 (some rI456)) (re_lf 457 (some rI457)))) (re_br 460 (re_br 459 (re_lf 458 (some rI458)) (re_lf 459 (some rI459))) (re_br 461 (re_lf 460 (some rI460)) (re_br 462 (re_lf 461 (some rI461)) (re_lf 462 (some rI462)))))))) (re_br 579 (re_br 518 (re_br 514 (re_br 512 (re_br 464 (re_lf 463 (some rI463)) (re_lf 464 (some rI464))) (re_br 513 (re_lf 512 (some rI512)) (re_lf 513 (some rI513)))) (re_br 516 (re_br 515 (re_lf 514 (some rI514)) (re_lf 515 (some rI515))) (re_br 517 (re_lf 516 (some rI516)) (re_lf 517 (some rI517))))) (re_br 522 (re_br 520 (re_br 519 (re_lf 518 (some rI518)) (re_lf 519 (some rI519))) (re_br 521 (re_lf 520 (some rI520)) (re_lf 521 (some rI521)))) (re_br 576 (re_br 523 (re_lf 522 (some rI522)) (re_lf 523 (some rI523))) (re_br 577 (re_lf 576 (some rI576)) (re_br 578 (re_lf 577 (some rI577)) (re_lf 578 (some rI578))))))) (re_br 587 (re_br 583 (re_br 581 (re_br 580 (re_lf 579 (some rI579)) (re_lf 580 (some rI580))) (re_br 582 (re_lf 581 (some rI581)) (re_lf 582 (some rI582)))) (re_br 585 (re_br 584 (re_lf 583 (some rI583)) (re_lf 584 (some rI584))) (re_br 586 (re_lf 585 (some rI585)) (re_lf 586 (some rI586))))) (re_br 642 (re_br 640 (re_br 588 (re_lf 587 (some rI587)) (re_lf 588 (some rI588))) (re_br 641 (re_lf 640 (some rI640)) (re_lf 641 (some rI641)))) (re_br 644 (re_br 643 (re_lf 642 (some rI642)) (re_lf 643 (some rI643))) (re_br 704 (re_lf 644 (some rI644)) (re_br 768 (re_lf 704 (some rI704)) (re_lf 768 (some rI768)))))))))) y).getD (fun _ => none)
end
section
theorem rK0 : (List.range (rYs 0)).all (re_ckI (rYb 0) (rIns 0)) = true := by decide +kernel
theorem rK1 : (List.range (rYs 1)).all (re_ckI (rYb 1) (rIns 1)) = true := by decide +kernel
theorem rK2 : (List.range (rYs 2)).all (re_ckI (rYb 2) (rIns 2)) = true := by decide +kernel
theorem rK3 : (List.range (rYs 3)).all (re_ckI (rYb 3) (rIns 3)) = true := by decide +kernel
theorem rK4 : (List.range (rYs 4)).all (re_ckI (rYb 4) (rIns 4)) = true := by decide +kernel
theorem rK5 : (List.range (rYs 5)).all (re_ckI (rYb 5) (rIns 5)) = true := by decide +kernel
theorem rK6 : (List.range (rYs 6)).all (re_ckI (rYb 6) (rIns 6)) = true := by decide +kernel
theorem rK7 : (List.range (rYs 7)).all (re_ckI (rYb 7) (rIns 7)) = true := by decide +kernel
theorem rK8 : (List.range (rYs 8)).all (re_ckI (rYb 8) (rIns 8)) = true := by decide +kernel
theorem rK9 : (List.range (rYs 9)).all (re_ckI (rYb 9) (rIns 9)) = true := by decide +kernel
theorem rK10 : (List.range (rYs 10)).all (re_ckI (rYb 10) (rIns 10)) = true := by decide +kernel
theorem rK11 : (List.range (rYs 11)).all (re_ckI (rYb 11) (rIns 11)) = true := by decide +kernel
theorem rK12 : (List.range (rYs 12)).all (re_ckI (rYb 12) (rIns 12)) = true := by decide +kernel
theorem rK13 : (List.range (rYs 13)).all (re_ckI (rYb 13) (rIns 13)) = true := by decide +kernel
theorem rK14 : (List.range (rYs 14)).all (re_ckI (rYb 14) (rIns 14)) = true := by decide +kernel
theorem rK15 : (List.range (rYs 15)).all (re_ckI (rYb 15) (rIns 15)) = true := by decide +kernel
theorem rK16 : (List.range (rYs 16)).all (re_ckI (rYb 16) (rIns 16)) = true := by decide +kernel
theorem rK17 : (List.range (rYs 17)).all (re_ckI (rYb 17) (rIns 17)) = true := by decide +kernel
theorem rK18 : (List.range (rYs 18)).all (re_ckI (rYb 18) (rIns 18)) = true := by decide +kernel
theorem rK19 : (List.range (rYs 19)).all (re_ckI (rYb 19) (rIns 19)) = true := by decide +kernel
theorem rK20 : (List.range (rYs 20)).all (re_ckI (rYb 20) (rIns 20)) = true := by decide +kernel
theorem rK21 : (List.range (rYs 21)).all (re_ckI (rYb 21) (rIns 21)) = true := by decide +kernel
def rIdl0 : List Nat := [0, 1, 2, 3, 4, 5, 6, 7, 8, 9, 10, 11, 12, 13, 14, 15, 16, 17, 18, 19, 20, 21]
theorem rKl0 : ∀ y ∈ rIdl0, (List.range (rYs y)).all (re_ckI (rYb y) (rIns y)) = true := List.forall_mem_cons.mpr ⟨rK0, List.forall_mem_cons.mpr ⟨rK1, List.forall_mem_cons.mpr ⟨rK2, List.forall_mem_cons.mpr ⟨rK3, List.forall_mem_cons.mpr ⟨rK4, List.forall_mem_cons.mpr ⟨rK5, List.forall_mem_cons.mpr ⟨rK6, List.forall_mem_cons.mpr ⟨rK7, List.forall_mem_cons.mpr ⟨rK8, List.forall_mem_cons.mpr ⟨rK9, List.forall_mem_cons.mpr ⟨rK10, List.forall_mem_cons.mpr ⟨rK11, List.forall_mem_cons.mpr ⟨rK12, List.forall_mem_cons.mpr ⟨rK13, List.forall_mem_cons.mpr ⟨rK14, List.forall_mem_cons.mpr ⟨rK15, List.forall_mem_cons.mpr ⟨rK16, List.forall_mem_cons.mpr ⟨rK17, List.forall_mem_cons.mpr ⟨rK18, List.forall_mem_cons.mpr ⟨rK19, List.forall_mem_cons.mpr ⟨rK20, List.forall_mem_cons.mpr ⟨rK21, fun _ h => absurd h List.not_mem_nil⟩⟩⟩⟩⟩⟩⟩⟩⟩⟩⟩⟩⟩⟩⟩⟩⟩⟩⟩⟩⟩⟩
end
section
theorem rK22 : (List.range (rYs 22)).all (re_ckI (rYb 22) (rIns 22)) = true := by decide +kernel
theorem rK23 : (List.range (rYs 23)).all (re_ckI (rYb 23) (rIns 23)) = true := by decide +kernel
theorem rK24 : (List.range (rYs 24)).all (re_ckI (rYb 24) (rIns 24)) = true := by decide +kernel
theorem rK25 : (List.range (rYs 25)).all (re_ckI (rYb 25) (rIns 25)) = true := by decide +kernel
theorem rK26 : (List.range (rYs 26)).all (re_ckI (rYb 26) (rIns 26)) = true := by decide +kernel
theorem rK27 : (List.range (rYs 27)).all (re_ckI (rYb 27) (rIns 27)) = true := by decide +kernel
theorem rK28 : (List.range (rYs 28)).all (re_ckI (rYb 28) (rIns 28)) = true := by decide +kernel
theorem rK29 : (List.range (rYs 29)).all (re_ckI (rYb 29) (rIns 29)) = true := by decide +kernel
theorem rK30 : (List.range (rYs 30)).all (re_ckI (rYb 30) (rIns 30)) = true := by decide +kernel
theorem rK31 : (List.range (rYs 31)).all (re_ckI (rYb 31) (rIns 31)) = true := by decide +kernel
theorem rK32 : (List.range (rYs 32)).all (re_ckI (rYb 32) (rIns 32)) = true := by decide +kernel
theorem rK33 : (List.range (rYs 33)).all (re_ckI (rYb 33) (rIns 33)) = true := by decide +kernel
theorem rK34 : (List.range (rYs 34)).all (re_ckI (rYb 34) (rIns 34)) = true := by decide +kernel
theorem rK35 : (List.range (rYs 35)).all (re_ckI (rYb 35) (rIns 35)) = true := by decide +kernel
theorem rK36 : (List.range (rYs 36)).all (re_ckI (rYb 36) (rIns 36)) = true := by decide +kernel
theorem rK37 : (List.range (rYs 37)).all (re_ckI (rYb 37) (rIns 37)) = true := by decide +kernel
theorem rK38 : (List.range (rYs 38)).all (re_ckI (rYb 38) (rIns 38)) = true := by decide +kernel
theorem rK39 : (List.range (rYs 39)).all (re_ckI (rYb 39) (rIns 39)) = true := by decide +kernel
theorem rK64 : (List.range (rYs 64)).all (re_ckI (rYb 64) (rIns 64)) = true := by decide +kernel
theorem rK65 : (List.range (rYs 65)).all (re_ckI (rYb 65) (rIns 65)) = true := by decide +kernel
theorem rK66 : (List.range (rYs 66)).all (re_ckI (rYb 66) (rIns 66)) = true := by decide +kernel
theorem rK67 : (List.range (rYs 67)).all (re_ckI (rYb 67) (rIns 67)) = true := by decide +kernel
theorem rK68 : (List.range (rYs 68)).all (re_ckI (rYb 68) (rIns 68)) = true := by decide +kernel
theorem rK69 : (List.range (rYs 69)).all (re_ckI (rYb 69) (rIns 69)) = true := by decide +kernel
theorem rK70 : (List.range (rYs 70)).all (re_ckI (rYb 70) (rIns 70)) = true := by decide +kernel
def rIdl1 : List Nat := [22, 23, 24, 25, 26, 27, 28, 29, 30, 31, 32, 33, 34, 35, 36, 37, 38, 39, 64, 65, 66, 67, 68, 69, 70]
theorem rKl1 : ∀ y ∈ rIdl1, (List.range (rYs y)).all (re_ckI (rYb y) (rIns y)) = true := List.forall_mem_cons.mpr ⟨rK22, List.forall_mem_cons.mpr ⟨rK23, List.forall_mem_cons.mpr ⟨rK24, List.forall_mem_cons.mpr ⟨rK25, List.forall_mem_cons.mpr ⟨rK26, List.forall_mem_cons.mpr ⟨rK27, List.forall_mem_cons.mpr ⟨rK28, List.forall_mem_cons.mpr ⟨rK29, List.forall_mem_cons.mpr ⟨rK30, List.forall_mem_cons.mpr ⟨rK31, List.forall_mem_cons.mpr ⟨rK32, List.forall_mem_cons.mpr ⟨rK33, List.forall_mem_cons.mpr ⟨rK34, List.forall_mem_cons.mpr ⟨rK35, List.forall_mem_cons.mpr ⟨rK36, List.forall_mem_cons.mpr ⟨rK37, List.forall_mem_cons.mpr ⟨rK38, List.forall_mem_cons.mpr ⟨rK39, List.forall_mem_cons.mpr ⟨rK64, List.forall_mem_cons.mpr ⟨rK65, List.forall_mem_cons.mpr ⟨rK66, List.forall_mem_cons.mpr ⟨rK67, List.forall_mem_cons.mpr ⟨rK68, List.forall_mem_cons.mpr ⟨rK69, List.forall_mem_cons.mpr ⟨rK70, fun _ h => absurd h List.not_mem_nil⟩⟩⟩⟩⟩⟩⟩⟩⟩⟩⟩⟩⟩⟩⟩⟩⟩⟩⟩⟩⟩⟩⟩⟩⟩
end
section
theorem rK71 : (List.range (rYs 71)).all (re_ckI (rYb 71) (rIns 71)) = true := by decide +kernel
theorem rK128 : (List.range (rYs 128)).all (re_ckI (rYb 128) (rIns 128)) = true := by decide +kernel
theorem rK129 : (List.range (rYs 129)).all (re_ckI (rYb 129) (rIns 129)) = true := by decide +kernel
theorem rK130 : (List.range (rYs 130)).all (re_ckI (rYb 130) (rIns 130)) = true := by decide +kernel
theorem rK131 : (List.range (rYs 131)).all (re_ckI (rYb 131) (rIns 131)) = true := by decide +kernel
theorem rK132 : (List.range (rYs 132)).all (re_ckI (rYb 132) (rIns 132)) = true := by decide +kernel
theorem rK133 : (List.range (rYs 133)).all (re_ckI (rYb 133) (rIns 133)) = true := by decide +kernel
theorem rK134 : (List.range (rYs 134)).all (re_ckI (rYb 134) (rIns 134)) = true := by decide +kernel
theorem rK135 : (List.range (rYs 135)).all (re_ckI (rYb 135) (rIns 135)) = true := by decide +kernel
theorem rK136 : (List.range (rYs 136)).all (re_ckI (rYb 136) (rIns 136)) = true := by decide +kernel
theorem rK137 : (List.range (rYs 137)).all (re_ckI (rYb 137) (rIns 137)) = true := by decide +kernel
theorem rK138 : (List.range (rYs 138)).all (re_ckI (rYb 138) (rIns 138)) = true := by decide +kernel
theorem rK139 : (List.range (rYs 139)).all (re_ckI (rYb 139) (rIns 139)) = true := by decide +kernel
theorem rK140 : (List.range (rYs 140)).all (re_ckI (rYb 140) (rIns 140)) = true := by decide +kernel
theorem rK192 : (List.range (rYs 192)).all (re_ckI (rYb 192) (rIns 192)) = true := by decide +kernel
theorem rK193 : (List.range (rYs 193)).all (re_ckI (rYb 193) (rIns 193)) = true := by decide +kernel
theorem rK194 : (List.range (rYs 194)).all (re_ckI (rYb 194) (rIns 194)) = true := by decide +kernel
theorem rK195 : (List.range (rYs 195)).all (re_ckI (rYb 195) (rIns 195)) = true := by decide +kernel
def rIdl2 : List Nat := [71, 128, 129, 130, 131, 132, 133, 134, 135, 136, 137, 138, 139, 140, 192, 193, 194, 195]
theorem rKl2 : ∀ y ∈ rIdl2, (List.range (rYs y)).all (re_ckI (rYb y) (rIns y)) = true := List.forall_mem_cons.mpr ⟨rK71, List.forall_mem_cons.mpr ⟨rK128, List.forall_mem_cons.mpr ⟨rK129, List.forall_mem_cons.mpr ⟨rK130, List.forall_mem_cons.mpr ⟨rK131, List.forall_mem_cons.mpr ⟨rK132, List.forall_mem_cons.mpr ⟨rK133, List.forall_mem_cons.mpr ⟨rK134, List.forall_mem_cons.mpr ⟨rK135, List.forall_mem_cons.mpr ⟨rK136, List.forall_mem_cons.mpr ⟨rK137, List.forall_mem_cons.mpr ⟨rK138, List.forall_mem_cons.mpr ⟨rK139, List.forall_mem_cons.mpr ⟨rK140, List.forall_mem_cons.mpr ⟨rK192, List.forall_mem_cons.mpr ⟨rK193, List.forall_mem_cons.mpr ⟨rK194, List.forall_mem_cons.mpr ⟨rK195, fun _ h => absurd h List.not_mem_nil⟩⟩⟩⟩⟩⟩⟩⟩⟩⟩⟩⟩⟩⟩⟩⟩⟩⟩
end
section
theorem rK196 : (List.range (rYs 196)).all (re_ckI (rYb 196) (rIns 196)) = true := by decide +kernel
theorem rK197 : (List.range (rYs 197)).all (re_ckI (rYb 197) (rIns 197)) = true := by decide +kernel
theorem rK256 : (List.range (rYs 256)).all (re_ckI (rYb 256) (rIns 256)) = true := by decide +kernel
theorem rK320 : (List.range (rYs 320)).all (re_ckI (rYb 320) (rIns 320)) = true := by decide +kernel
theorem rK321 : (List.range (rYs 321)).all (re_ckI (rYb 321) (rIns 321)) = true := by decide +kernel
theorem rK322 : (List.range (rYs 322)).all (re_ckI (rYb 322) (rIns 322)) = true := by decide +kernel
theorem rK323 : (List.range (rYs 323)).all (re_ckI (rYb 323) (rIns 323)) = true := by decide +kernel
theorem rK324 : (List.range (rYs 324)).all (re_ckI (rYb 324) (rIns 324)) = true := by decide +kernel
theorem rK325 : (List.range (rYs 325)).all (re_ckI (rYb 325) (rIns 325)) = true := by decide +kernel
theorem rK326 : (List.range (rYs 326)).all (re_ckI (rYb 326) (rIns 326)) = true := by decide +kernel
theorem rK327 : (List.range (rYs 327)).all (re_ckI (rYb 327) (rIns 327)) = true := by decide +kernel
theorem rK328 : (List.range (rYs 328)).all (re_ckI (rYb 328) (rIns 328)) = true := by decide +kernel
theorem rK329 : (List.range (rYs 329)).all (re_ckI (rYb 329) (rIns 329)) = true := by decide +kernel
theorem rK330 : (List.range (rYs 330)).all (re_ckI (rYb 330) (rIns 330)) = true := by decide +kernel
theorem rK331 : (List.range (rYs 331)).all (re_ckI (rYb 331) (rIns 331)) = true := by decide +kernel
theorem rK332 : (List.range (rYs 332)).all (re_ckI (rYb 332) (rIns 332)) = true := by decide +kernel
theorem rK384 : (List.range (rYs 384)).all (re_ckI (rYb 384) (rIns 384)) = true := by decide +kernel
theorem rK385 : (List.range (rYs 385)).all (re_ckI (rYb 385) (rIns 385)) = true := by decide +kernel
theorem rK386 : (List.range (rYs 386)).all (re_ckI (rYb 386) (rIns 386)) = true := by decide +kernel
theorem rK387 : (List.range (rYs 387)).all (re_ckI (rYb 387) (rIns 387)) = true := by decide +kernel
def rIdl3 : List Nat := [196, 197, 256, 320, 321, 322, 323, 324, 325, 326, 327, 328, 329, 330, 331, 332, 384, 385, 386, 387]
theorem rKl3 : ∀ y ∈ rIdl3, (List.range (rYs y)).all (re_ckI (rYb y) (rIns y)) = true := List.forall_mem_cons.mpr ⟨rK196, List.forall_mem_cons.mpr ⟨rK197, List.forall_mem_cons.mpr ⟨rK256, List.forall_mem_cons.mpr ⟨rK320, List.forall_mem_cons.mpr ⟨rK321, List.forall_mem_cons.mpr ⟨rK322, List.forall_mem_cons.mpr ⟨rK323, List.forall_mem_cons.mpr ⟨rK324, List.forall_mem_cons.mpr ⟨rK325, List.forall_mem_cons.mpr ⟨rK326, List.forall_mem_cons.mpr ⟨rK327, List.forall_mem_cons.mpr ⟨rK328, List.forall_mem_cons.mpr ⟨rK329, List.forall_mem_cons.mpr ⟨rK330, List.forall_mem_cons.mpr ⟨rK331, List.forall_mem_cons.mpr ⟨rK332, List.forall_mem_cons.mpr ⟨rK384, List.forall_mem_cons.mpr ⟨rK385, List.forall_mem_cons.mpr ⟨rK386, List.forall_mem_cons.mpr ⟨rK387, fun _ h => absurd h List.not_mem_nil⟩⟩⟩⟩⟩⟩⟩⟩⟩⟩⟩⟩⟩⟩⟩⟩⟩⟩⟩⟩
end
section
theorem rK388 : (List.range (rYs 388)).all (re_ckI (rYb 388) (rIns 388)) = true := by decide +kernel
theorem rK448 : (List.range (rYs 448)).all (re_ckI (rYb 448) (rIns 448)) = true := by decide +kernel
theorem rK449 : (List.range (rYs 449)).all (re_ckI (rYb 449) (rIns 449)) = true := by decide +kernel
theorem rK450 : (List.range (rYs 450)).all (re_ckI (rYb 450) (rIns 450)) = true := by decide +kernel
theorem rK451 : (List.range (rYs 451)).all (re_ckI (rYb 451) (rIns 451)) = true := by decide +kernel
theorem rK452 : (List.range (rYs 452)).all (re_ckI (rYb 452) (rIns 452)) = true := by decide +kernel
theorem rK453 : (List.range (rYs 453)).all (re_ckI (rYb 453) (rIns 453)) = true := by decide +kernel
theorem rK454 : (List.range (rYs 454)).all (re_ckI (rYb 454) (rIns 454)) = true := by decide +kernel
theorem rK455 : (List.range (rYs 455)).all (re_ckI (rYb 455) (rIns 455)) = true := by decide +kernel
theorem rK456 : (List.range (rYs 456)).all (re_ckI (rYb 456) (rIns 456)) = true := by decide +kernel
theorem rK457 : (List.range (rYs 457)).all (re_ckI (rYb 457) (rIns 457)) = true := by decide +kernel
theorem rK458 : (List.range (rYs 458)).all (re_ckI (rYb 458) (rIns 458)) = true := by decide +kernel
theorem rK459 : (List.range (rYs 459)).all (re_ckI (rYb 459) (rIns 459)) = true := by decide +kernel
def rIdl4 : List Nat := [388, 448, 449, 450, 451, 452, 453, 454, 455, 456, 457, 458, 459]
theorem rKl4 : ∀ y ∈ rIdl4, (List.range (rYs y)).all (re_ckI (rYb y) (rIns y)) = true := List.forall_mem_cons.mpr ⟨rK388, List.forall_mem_cons.mpr ⟨rK448, List.forall_mem_cons.mpr ⟨rK449, List.forall_mem_cons.mpr ⟨rK450, List.forall_mem_cons.mpr ⟨rK451, List.forall_mem_cons.mpr ⟨rK452, List.forall_mem_cons.mpr ⟨rK453, List.forall_mem_cons.mpr ⟨rK454, List.forall_mem_cons.mpr ⟨rK455, List.forall_mem_cons.mpr ⟨rK456, List.forall_mem_cons.mpr ⟨rK457, List.forall_mem_cons.mpr ⟨rK458, List.forall_mem_cons.mpr ⟨rK459, fun _ h => absurd h List.not_mem_nil⟩⟩⟩⟩⟩⟩⟩⟩⟩⟩⟩⟩⟩
end
section
theorem rK460 : (List.range (rYs 460)).all (re_ckI (rYb 460) (rIns 460)) = true := by decide +kernel
theorem rK461 : (List.range (rYs 461)).all (re_ckI (rYb 461) (rIns 461)) = true := by decide +kernel
theorem rK462 : (List.range (rYs 462)).all (re_ckI (rYb 462) (rIns 462)) = true := by decide +kernel
theorem rK463 : (List.range (rYs 463)).all (re_ckI (rYb 463) (rIns 463)) = true := by decide +kernel
theorem rK464 : (List.range (rYs 464)).all (re_ckI (rYb 464) (rIns 464)) = true := by decide +kernel
theorem rK512 : (List.range (rYs 512)).all (re_ckI (rYb 512) (rIns 512)) = true := by decide +kernel
theorem rK513 : (List.range (rYs 513)).all (re_ckI (rYb 513) (rIns 513)) = true := by decide +kernel
theorem rK514 : (List.range (rYs 514)).all (re_ckI (rYb 514) (rIns 514)) = true := by decide +kernel
theorem rK515 : (List.range (rYs 515)).all (re_ckI (rYb 515) (rIns 515)) = true := by decide +kernel
theorem rK516 : (List.range (rYs 516)).all (re_ckI (rYb 516) (rIns 516)) = true := by decide +kernel
theorem rK517 : (List.range (rYs 517)).all (re_ckI (rYb 517) (rIns 517)) = true := by decide +kernel
theorem rK518 : (List.range (rYs 518)).all (re_ckI (rYb 518) (rIns 518)) = true := by decide +kernel
theorem rK519 : (List.range (rYs 519)).all (re_ckI (rYb 519) (rIns 519)) = true := by decide +kernel
theorem rK520 : (List.range (rYs 520)).all (re_ckI (rYb 520) (rIns 520)) = true := by decide +kernel
theorem rK521 : (List.range (rYs 521)).all (re_ckI (rYb 521) (rIns 521)) = true := by decide +kernel
def rIdl5 : List Nat := [460, 461, 462, 463, 464, 512, 513, 514, 515, 516, 517, 518, 519, 520, 521]
theorem rKl5 : ∀ y ∈ rIdl5, (List.range (rYs y)).all (re_ckI (rYb y) (rIns y)) = true := List.forall_mem_cons.mpr ⟨rK460, List.forall_mem_cons.mpr ⟨rK461, List.forall_mem_cons.mpr ⟨rK462, List.forall_mem_cons.mpr ⟨rK463, List.forall_mem_cons.mpr ⟨rK464, List.forall_mem_cons.mpr ⟨rK512, List.forall_mem_cons.mpr ⟨rK513, List.forall_mem_cons.mpr ⟨rK514, List.forall_mem_cons.mpr ⟨rK515, List.forall_mem_cons.mpr ⟨rK516, List.forall_mem_cons.mpr ⟨rK517, List.forall_mem_cons.mpr ⟨rK518, List.forall_mem_cons.mpr ⟨rK519, List.forall_mem_cons.mpr ⟨rK520, List.forall_mem_cons.mpr ⟨rK521, fun _ h => absurd h List.not_mem_nil⟩⟩⟩⟩⟩⟩⟩⟩⟩⟩⟩⟩⟩⟩⟩
end
section
theorem rK522 : (List.range (rYs 522)).all (re_ckI (rYb 522) (rIns 522)) = true := by decide +kernel
theorem rK523 : (List.range (rYs 523)).all (re_ckI (rYb 523) (rIns 523)) = true := by decide +kernel
theorem rK576 : (List.range (rYs 576)).all (re_ckI (rYb 576) (rIns 576)) = true := by decide +kernel
theorem rK577 : (List.range (rYs 577)).all (re_ckI (rYb 577) (rIns 577)) = true := by decide +kernel
theorem rK578 : (List.range (rYs 578)).all (re_ckI (rYb 578) (rIns 578)) = true := by decide +kernel
theorem rK579 : (List.range (rYs 579)).all (re_ckI (rYb 579) (rIns 579)) = true := by decide +kernel
theorem rK580_0 : (List.range 50).all (fun k => re_ckI (rYb 580) (rIns 580) (k + 50 * 0)) = true := by decide +kernel
theorem rK580_1 : (List.range 50).all (fun k => re_ckI (rYb 580) (rIns 580) (k + 50 * 1)) = true := by decide +kernel
theorem rK580_2 : (List.range 50).all (fun k => re_ckI (rYb 580) (rIns 580) (k + 50 * 2)) = true := by decide +kernel
theorem rK580_3 : (List.range 50).all (fun k => re_ckI (rYb 580) (rIns 580) (k + 50 * 3)) = true := by decide +kernel
theorem rK580_4 : (List.range 50).all (fun k => re_ckI (rYb 580) (rIns 580) (k + 50 * 4)) = true := by decide +kernel
theorem rK580_5 : (List.range 50).all (fun k => re_ckI (rYb 580) (rIns 580) (k + 50 * 5)) = true := by decide +kernel
theorem rK580_6 : (List.range 50).all (fun k => re_ckI (rYb 580) (rIns 580) (k + 50 * 6)) = true := by decide +kernel
theorem rK580_7 : (List.range 50).all (fun k => re_ckI (rYb 580) (rIns 580) (k + 50 * 7)) = true := by decide +kernel
theorem rK580 : (List.range (rYs 580)).all (re_ckI (rYb 580) (rIns 580)) = true := re_big (m := 8) (by decide +kernel) (fun i hi => match i, hi with
  | 0, _ => rK580_0
  | 1, _ => rK580_1
  | 2, _ => rK580_2
  | 3, _ => rK580_3
  | 4, _ => rK580_4
  | 5, _ => rK580_5
  | 6, _ => rK580_6
  | 7, _ => rK580_7
  | i + 8, h => absurd h (by omega))
theorem rK581 : (List.range (rYs 581)).all (re_ckI (rYb 581) (rIns 581)) = true := by decide +kernel
theorem rK582_0 : (List.range 50).all (fun k => re_ckI (rYb 582) (rIns 582) (k + 50 * 0)) = true := by decide +kernel
theorem rK582_1 : (List.range 50).all (fun k => re_ckI (rYb 582) (rIns 582) (k + 50 * 1)) = true := by decide +kernel
theorem rK582_2 : (List.range 50).all (fun k => re_ckI (rYb 582) (rIns 582) (k + 50 * 2)) = true := by decide +kernel
theorem rK582_3 : (List.range 50).all (fun k => re_ckI (rYb 582) (rIns 582) (k + 50 * 3)) = true := by decide +kernel
theorem rK582_4 : (List.range 50).all (fun k => re_ckI (rYb 582) (rIns 582) (k + 50 * 4)) = true := by decide +kernel
theorem rK582_5 : (List.range 50).all (fun k => re_ckI (rYb 582) (rIns 582) (k + 50 * 5)) = true := by decide +kernel
theorem rK582_6 : (List.range 50).all (fun k => re_ckI (rYb 582) (rIns 582) (k + 50 * 6)) = true := by decide +kernel
theorem rK582 : (List.range (rYs 582)).all (re_ckI (rYb 582) (rIns 582)) = true := re_big (m := 7) (by decide +kernel) (fun i hi => match i, hi with
  | 0, _ => rK582_0
  | 1, _ => rK582_1
  | 2, _ => rK582_2
  | 3, _ => rK582_3
  | 4, _ => rK582_4
  | 5, _ => rK582_5
  | 6, _ => rK582_6
  | i + 7, h => absurd h (by omega))
def rIdl6 : List Nat := [522, 523, 576, 577, 578, 579, 580, 581, 582]
theorem rKl6 : ∀ y ∈ rIdl6, (List.range (rYs y)).all (re_ckI (rYb y) (rIns y)) = true := List.forall_mem_cons.mpr ⟨rK522, List.forall_mem_cons.mpr ⟨rK523, List.forall_mem_cons.mpr ⟨rK576, List.forall_mem_cons.mpr ⟨rK577, List.forall_mem_cons.mpr ⟨rK578, List.forall_mem_cons.mpr ⟨rK579, List.forall_mem_cons.mpr ⟨rK580, List.forall_mem_cons.mpr ⟨rK581, List.forall_mem_cons.mpr ⟨rK582, fun _ h => absurd h List.not_mem_nil⟩⟩⟩⟩⟩⟩⟩⟩⟩
end
section
theorem rK583 : (List.range (rYs 583)).all (re_ckI (rYb 583) (rIns 583)) = true := by decide +kernel
theorem rK584 : (List.range (rYs 584)).all (re_ckI (rYb 584) (rIns 584)) = true := by decide +kernel
theorem rK585_0 : (List.range 50).all (fun k => re_ckI (rYb 585) (rIns 585) (k + 50 * 0)) = true := by decide +kernel
theorem rK585_1 : (List.range 50).all (fun k => re_ckI (rYb 585) (rIns 585) (k + 50 * 1)) = true := by decide +kernel
theorem rK585_2 : (List.range 50).all (fun k => re_ckI (rYb 585) (rIns 585) (k + 50 * 2)) = true := by decide +kernel
theorem rK585_3 : (List.range 50).all (fun k => re_ckI (rYb 585) (rIns 585) (k + 50 * 3)) = true := by decide +kernel
theorem rK585_4 : (List.range 50).all (fun k => re_ckI (rYb 585) (rIns 585) (k + 50 * 4)) = true := by decide +kernel
theorem rK585_5 : (List.range 50).all (fun k => re_ckI (rYb 585) (rIns 585) (k + 50 * 5)) = true := by decide +kernel
theorem rK585_6 : (List.range 50).all (fun k => re_ckI (rYb 585) (rIns 585) (k + 50 * 6)) = true := by decide +kernel
theorem rK585_7 : (List.range 50).all (fun k => re_ckI (rYb 585) (rIns 585) (k + 50 * 7)) = true := by decide +kernel
theorem rK585_8 : (List.range 50).all (fun k => re_ckI (rYb 585) (rIns 585) (k + 50 * 8)) = true := by decide +kernel
theorem rK585_9 : (List.range 50).all (fun k => re_ckI (rYb 585) (rIns 585) (k + 50 * 9)) = true := by decide +kernel
theorem rK585_10 : (List.range 50).all (fun k => re_ckI (rYb 585) (rIns 585) (k + 50 * 10)) = true := by decide +kernel
theorem rK585 : (List.range (rYs 585)).all (re_ckI (rYb 585) (rIns 585)) = true := re_big (m := 11) (by decide +kernel) (fun i hi => match i, hi with
  | 0, _ => rK585_0
  | 1, _ => rK585_1
  | 2, _ => rK585_2
  | 3, _ => rK585_3
  | 4, _ => rK585_4
  | 5, _ => rK585_5
  | 6, _ => rK585_6
  | 7, _ => rK585_7
  | 8, _ => rK585_8
  | 9, _ => rK585_9
  | 10, _ => rK585_10
  | i + 11, h => absurd h (by omega))
theorem rK586_0 : (List.range 50).all (fun k => re_ckI (rYb 586) (rIns 586) (k + 50 * 0)) = true := by decide +kernel
theorem rK586_1 : (List.range 50).all (fun k => re_ckI (rYb 586) (rIns 586) (k + 50 * 1)) = true := by decide +kernel
theorem rK586_2 : (List.range 50).all (fun k => re_ckI (rYb 586) (rIns 586) (k + 50 * 2)) = true := by decide +kernel
theorem rK586_3 : (List.range 50).all (fun k => re_ckI (rYb 586) (rIns 586) (k + 50 * 3)) = true := by decide +kernel
theorem rK586_4 : (List.range 50).all (fun k => re_ckI (rYb 586) (rIns 586) (k + 50 * 4)) = true := by decide +kernel
theorem rK586_5 : (List.range 50).all (fun k => re_ckI (rYb 586) (rIns 586) (k + 50 * 5)) = true := by decide +kernel
theorem rK586_6 : (List.range 50).all (fun k => re_ckI (rYb 586) (rIns 586) (k + 50 * 6)) = true := by decide +kernel
theorem rK586_7 : (List.range 50).all (fun k => re_ckI (rYb 586) (rIns 586) (k + 50 * 7)) = true := by decide +kernel
theorem rK586_8 : (List.range 50).all (fun k => re_ckI (rYb 586) (rIns 586) (k + 50 * 8)) = true := by decide +kernel
theorem rK586_9 : (List.range 50).all (fun k => re_ckI (rYb 586) (rIns 586) (k + 50 * 9)) = true := by decide +kernel
theorem rK586_10 : (List.range 50).all (fun k => re_ckI (rYb 586) (rIns 586) (k + 50 * 10)) = true := by decide +kernel
theorem rK586_11 : (List.range 50).all (fun k => re_ckI (rYb 586) (rIns 586) (k + 50 * 11)) = true := by decide +kernel
theorem rK586 : (List.range (rYs 586)).all (re_ckI (rYb 586) (rIns 586)) = true := re_big (m := 12) (by decide +kernel) (fun i hi => match i, hi with
  | 0, _ => rK586_0
  | 1, _ => rK586_1
  | 2, _ => rK586_2
  | 3, _ => rK586_3
  | 4, _ => rK586_4
  | 5, _ => rK586_5
  | 6, _ => rK586_6
  | 7, _ => rK586_7
  | 8, _ => rK586_8
  | 9, _ => rK586_9
  | 10, _ => rK586_10
  | 11, _ => rK586_11
  | i + 12, h => absurd h (by omega))
def rIdl7 : List Nat := [583, 584, 585, 586]
theorem rKl7 : ∀ y ∈ rIdl7, (List.range (rYs y)).all (re_ckI (rYb y) (rIns y)) = true := List.forall_mem_cons.mpr ⟨rK583, List.forall_mem_cons.mpr ⟨rK584, List.forall_mem_cons.mpr ⟨rK585, List.forall_mem_cons.mpr ⟨rK586, fun _ h => absurd h List.not_mem_nil⟩⟩⟩⟩
end
section
theorem rK587_0 : (List.range 50).all (fun k => re_ckI (rYb 587) (rIns 587) (k + 50 * 0)) = true := by decide +kernel
theorem rK587_1 : (List.range 50).all (fun k => re_ckI (rYb 587) (rIns 587) (k + 50 * 1)) = true := by decide +kernel
theorem rK587_2 : (List.range 50).all (fun k => re_ckI (rYb 587) (rIns 587) (k + 50 * 2)) = true := by decide +kernel
theorem rK587_3 : (List.range 50).all (fun k => re_ckI (rYb 587) (rIns 587) (k + 50 * 3)) = true := by decide +kernel
theorem rK587_4 : (List.range 50).all (fun k => re_ckI (rYb 587) (rIns 587) (k + 50 * 4)) = true := by decide +kernel
theorem rK587_5 : (List.range 50).all (fun k => re_ckI (rYb 587) (rIns 587) (k + 50 * 5)) = true := by decide +kernel
theorem rK587_6 : (List.range 50).all (fun k => re_ckI (rYb 587) (rIns 587) (k + 50 * 6)) = true := by decide +kernel
theorem rK587_7 : (List.range 50).all (fun k => re_ckI (rYb 587) (rIns 587) (k + 50 * 7)) = true := by decide +kernel
theorem rK587_8 : (List.range 50).all (fun k => re_ckI (rYb 587) (rIns 587) (k + 50 * 8)) = true := by decide +kernel
theorem rK587 : (List.range (rYs 587)).all (re_ckI (rYb 587) (rIns 587)) = true := re_big (m := 9) (by decide +kernel) (fun i hi => match i, hi with
  | 0, _ => rK587_0
  | 1, _ => rK587_1
  | 2, _ => rK587_2
  | 3, _ => rK587_3
  | 4, _ => rK587_4
  | 5, _ => rK587_5
  | 6, _ => rK587_6
  | 7, _ => rK587_7
  | 8, _ => rK587_8
  | i + 9, h => absurd h (by omega))
theorem rK588_0 : (List.range 50).all (fun k => re_ckI (rYb 588) (rIns 588) (k + 50 * 0)) = true := by decide +kernel
theorem rK588_1 : (List.range 50).all (fun k => re_ckI (rYb 588) (rIns 588) (k + 50 * 1)) = true := by decide +kernel
theorem rK588_2 : (List.range 50).all (fun k => re_ckI (rYb 588) (rIns 588) (k + 50 * 2)) = true := by decide +kernel
theorem rK588_3 : (List.range 50).all (fun k => re_ckI (rYb 588) (rIns 588) (k + 50 * 3)) = true := by decide +kernel
theorem rK588_4 : (List.range 50).all (fun k => re_ckI (rYb 588) (rIns 588) (k + 50 * 4)) = true := by decide +kernel
theorem rK588_5 : (List.range 50).all (fun k => re_ckI (rYb 588) (rIns 588) (k + 50 * 5)) = true := by decide +kernel
theorem rK588_6 : (List.range 50).all (fun k => re_ckI (rYb 588) (rIns 588) (k + 50 * 6)) = true := by decide +kernel
theorem rK588 : (List.range (rYs 588)).all (re_ckI (rYb 588) (rIns 588)) = true := re_big (m := 7) (by decide +kernel) (fun i hi => match i, hi with
  | 0, _ => rK588_0
  | 1, _ => rK588_1
  | 2, _ => rK588_2
  | 3, _ => rK588_3
  | 4, _ => rK588_4
  | 5, _ => rK588_5
  | 6, _ => rK588_6
  | i + 7, h => absurd h (by omega))
def rIdl8 : List Nat := [587, 588]
theorem rKl8 : ∀ y ∈ rIdl8, (List.range (rYs y)).all (re_ckI (rYb y) (rIns y)) = true := List.forall_mem_cons.mpr ⟨rK587, List.forall_mem_cons.mpr ⟨rK588, fun _ h => absurd h List.not_mem_nil⟩⟩
end
section
theorem rK640_0 : (List.range 50).all (fun k => re_ckI (rYb 640) (rIns 640) (k + 50 * 0)) = true := by decide +kernel
theorem rK640_1 : (List.range 50).all (fun k => re_ckI (rYb 640) (rIns 640) (k + 50 * 1)) = true := by decide +kernel
theorem rK640_2 : (List.range 50).all (fun k => re_ckI (rYb 640) (rIns 640) (k + 50 * 2)) = true := by decide +kernel
theorem rK640_3 : (List.range 50).all (fun k => re_ckI (rYb 640) (rIns 640) (k + 50 * 3)) = true := by decide +kernel
theorem rK640_4 : (List.range 50).all (fun k => re_ckI (rYb 640) (rIns 640) (k + 50 * 4)) = true := by decide +kernel
theorem rK640_5 : (List.range 50).all (fun k => re_ckI (rYb 640) (rIns 640) (k + 50 * 5)) = true := by decide +kernel
theorem rK640_6 : (List.range 50).all (fun k => re_ckI (rYb 640) (rIns 640) (k + 50 * 6)) = true := by decide +kernel
theorem rK640_7 : (List.range 50).all (fun k => re_ckI (rYb 640) (rIns 640) (k + 50 * 7)) = true := by decide +kernel
theorem rK640 : (List.range (rYs 640)).all (re_ckI (rYb 640) (rIns 640)) = true := re_big (m := 8) (by decide +kernel) (fun i hi => match i, hi with
  | 0, _ => rK640_0
  | 1, _ => rK640_1
  | 2, _ => rK640_2
  | 3, _ => rK640_3
  | 4, _ => rK640_4
  | 5, _ => rK640_5
  | 6, _ => rK640_6
  | 7, _ => rK640_7
  | i + 8, h => absurd h (by omega))
theorem rK641 : (List.range (rYs 641)).all (re_ckI (rYb 641) (rIns 641)) = true := by decide +kernel
theorem rK642 : (List.range (rYs 642)).all (re_ckI (rYb 642) (rIns 642)) = true := by decide +kernel
theorem rK643 : (List.range (rYs 643)).all (re_ckI (rYb 643) (rIns 643)) = true := by decide +kernel
theorem rK644 : (List.range (rYs 644)).all (re_ckI (rYb 644) (rIns 644)) = true := by decide +kernel
theorem rK704 : (List.range (rYs 704)).all (re_ckI (rYb 704) (rIns 704)) = true := by decide +kernel
theorem rK768 : (List.range (rYs 768)).all (re_ckI (rYb 768) (rIns 768)) = true := by decide +kernel
def rIdl9 : List Nat := [640, 641, 642, 643, 644, 704, 768]
theorem rKl9 : ∀ y ∈ rIdl9, (List.range (rYs y)).all (re_ckI (rYb y) (rIns y)) = true := List.forall_mem_cons.mpr ⟨rK640, List.forall_mem_cons.mpr ⟨rK641, List.forall_mem_cons.mpr ⟨rK642, List.forall_mem_cons.mpr ⟨rK643, List.forall_mem_cons.mpr ⟨rK644, List.forall_mem_cons.mpr ⟨rK704, List.forall_mem_cons.mpr ⟨rK768, fun _ h => absurd h List.not_mem_nil⟩⟩⟩⟩⟩⟩⟩
end
section
theorem rKids : rIds = rIdl0 ++ rIdl1 ++ rIdl2 ++ rIdl3 ++ rIdl4 ++ rIdl5 ++ rIdl6 ++ rIdl7 ++ rIdl8 ++ rIdl9 := by decide +kernel
theorem rKall : ∀ y ∈ rIds, (List.range (rYs y)).all (re_ckI (rYb y) (rIns y)) = true := by
  rw [rKids]
  intro y hy
  simp only [List.mem_append] at hy
  rcases hy with ((((((((hy | hy) | hy) | hy) | hy) | hy) | hy) | hy) | hy) | hy
  · exact rKl0 y hy
  · exact rKl1 y hy
  · exact rKl2 y hy
  · exact rKl3 y hy
  · exact rKl4 y hy
  · exact rKl5 y hy
  · exact rKl6 y hy
  · exact rKl7 y hy
  · exact rKl8 y hy
  · exact rKl9 y hy
end
section
/-! A walk by evaluation. An abstract heap is a list of cells (kind, values); a reference is its place in that list.
'ad' gives the address of each place. re_pure: what an instruction without heap does. -/
/-- what stands for what: addresses of outside references, ints and longs that nobody looks at; the script's length and ints -/
abbrev re_V : Type := (Nat → Nat) × (Nat → Int32) × (Nat → Int64) × Nat × (Nat → Int32)
/-- an abstract value, and the machine's: a reference by its place; .retAddr n an outside reference, .float n and .double n an int and a long that nobody looks at -/
def re_rv (V : re_V) (ad : List Nat) (v w : Value) : Prop := match v with
  | .ref i => ∃ a, ad[i]? = some a ∧ w = .ref a
  | .retAddr n => w = .ref (V.1 n)
  | .float n => w = .int (V.2.1 n.toNat)
  | .double n => w = .long (V.2.2.1 n.toNat)
  | v => w = v
def re_rs (V : re_V) (ad : List Nat) : List Value → List Value → Prop
  | [], [] => True
  | v :: vs, w :: ws => re_rv V ad v w ∧ re_rs V ad vs ws
  | _, _ => False
section REV
variable {V : re_V}
theorem re_rs_nil {ad : List Nat} {ws : List Value} (h : re_rs V ad [] ws) : ws = [] := by
  cases ws with
  | nil => rfl
  | cons a l => exact absurd h id
theorem re_rs_cons {ad : List Nat} {v : Value} {vs ws : List Value} (h : re_rs V ad (v :: vs) ws) : ∃ w wr, ws = w :: wr ∧ re_rv V ad v w ∧ re_rs V ad vs wr := by
  cases ws with
  | nil => exact absurd h id
  | cons a l => exact ⟨a, l, rfl, h.1, h.2⟩
theorem re_rv_cat {ad : List Nat} {v w : Value} (h : re_rv V ad v w) : w.category = v.category := by
  cases v <;> simp only [re_rv] at h
  case ref i => obtain ⟨a, -, rfl⟩ := h; rfl
  all_goals (subst h; rfl)
def re_lk : List (Nat × Value) → Nat → Option Value
  | [], _ => none
  | q :: r, i => bif q.1 == i then some q.2 else re_lk r i
/-- what a local's slot holds is of two slots -/
def re_c2 (lv : List (Nat × Value)) (j : Nat) : Bool := match re_lk lv j with
  | some u => u.category == 2
  | none => false
def re_s1 (lv : List (Nat × Value)) (i : Nat) (v : Value) : List (Nat × Value) := (i, v) :: lv.filter (fun q => !(q.1 == i) && !(q.1 + 1 == i && re_c2 lv q.1))
def re_s2 (lv : List (Nat × Value)) (i : Nat) (v : Value) : List (Nat × Value) := (i, v) :: lv.filter (fun q => !(q.1 == i) && (!(q.1 == i + 1) && !(q.1 + 1 == i && re_c2 lv q.1)))
/-- each abstract local is told by the machine's -/
def re_rl (V : re_V) (ad : List Nat) (lv lc : List (Nat × Value)) : Prop := ∀ (i : Nat) (v : Value), re_lk lv i = some v → ∃ (k : Nat) (w : Value), lc[k]? = some (i, w) ∧ re_rv V ad v w
theorem re_rl_lk {ad : List Nat} {lv lc : List (Nat × Value)} {i : Nat} {v : Value} (h : re_rl V ad lv lc) (h2 : re_lk lv i = some v) : ∃ (k : Nat) (w : Value), lc[k]? = some (i, w) ∧ re_rv V ad v w := h i v h2
theorem re_lk_cons (i j : Nat) (v : Value) (lv : List (Nat × Value)) : re_lk ((i, v) :: lv) j = if i = j then some v else re_lk lv j := by
  show (bif i == j then some v else re_lk lv j) = _
  rcases Nat.decEq i j with h | h
  · rw [beq_false_of_ne h, if_neg h]; rfl
  · subst h; rw [beq_self_eq_true, if_pos rfl]; rfl
theorem re_lk_filter (p : Nat → Bool) (j : Nat) : ∀ lv : List (Nat × Value), re_lk (lv.filter (fun q => p q.1)) j = if p j = true then re_lk lv j else none
  | [] => by
    show none = _
    cases p j <;> rfl
  | q :: r => by
    have ih := re_lk_filter p j r
    obtain ⟨a, v⟩ := q
    rw [List.filter_cons, re_lk_cons]
    rcases Nat.decEq a j with h | h
    · rw [if_neg h]
      cases hp : p a with
      | true => show re_lk ((a, v) :: _) j = _; rw [re_lk_cons, if_neg h, ih]
      | false => exact ih
    · subst h
      rw [if_pos rfl]
      cases hp : p a with
      | true => show re_lk ((a, v) :: _) a = _; rw [re_lk_cons, if_pos rfl]; rfl
      | false => show re_lk (r.filter (fun q => p q.1)) a = none; rw [ih, hp]; rfl
theorem re_get_filter (f : Nat × Value → Bool) {lc : List (Nat × Value)} {k : Nat} {x : Nat × Value} (h : lc[k]? = some x) (hf : f x = true) : ∃ k' : Nat, (lc.filter f)[k']? = some x :=
  List.getElem?_of_mem (List.mem_filter.mpr ⟨List.mem_of_getElem? h, hf⟩)
theorem re_rl_filter {ad : List Nat} (p : Nat → Bool) (f : Nat × Value → Bool) {lv lc : List (Nat × Value)} (hf : ∀ (j : Nat) (u w : Value), re_lk lv j = some u → w.category = u.category → p j = true → f (j, w) = true) (h : re_rl V ad lv lc) : re_rl V ad (lv.filter (fun q => p q.1)) (lc.filter f) := by
  intro j u hj
  rw [re_lk_filter] at hj
  split at hj
  next hp =>
    obtain ⟨k, w, h1, h2⟩ := h j u hj
    obtain ⟨k', h3⟩ := re_get_filter f h1 (hf j u w hj (re_rv_cat h2) hp)
    exact ⟨k', w, h3, h2⟩
  next => cases hj
theorem re_c2_some {lv : List (Nat × Value)} {j : Nat} {u : Value} (h : re_lk lv j = some u) : re_c2 lv j = (u.category == 2) := by
  unfold re_c2
  rw [h]
theorem re_rl_cons {ad : List Nat} {lv lc : List (Nat × Value)} {v w : Value} (i : Nat) (hv : re_rv V ad v w) (h : re_rl V ad lv lc) : re_rl V ad ((i, v) :: lv) ((i, w) :: lc) := by
  intro j u hj
  rw [re_lk_cons] at hj
  split at hj
  next e => subst e; cases hj; exact ⟨0, w, rfl, hv⟩
  next e =>
    obtain ⟨k, w', h1, h2⟩ := h j u hj
    exact ⟨k + 1, w', h1, h2⟩
theorem re_rl_s1 {ad : List Nat} {lv lc : List (Nat × Value)} {v w : Value} (i : Nat) (h : re_rl V ad lv lc) (hv : re_rv V ad v w) : re_rl V ad (re_s1 lv i v) ((i, w) :: lc.filter (fun q => !(q.1 == i) && !(q.1 + 1 == i && q.2.category == 2))) :=
  re_rl_cons i hv (re_rl_filter (fun j => !(j == i) && !(j + 1 == i && re_c2 lv j)) _ (fun j u w' h1 h2 h3 => by
    dsimp only at h3 ⊢
    rw [h2, ← re_c2_some h1]
    exact h3) h)
theorem re_rl_s2 {ad : List Nat} {lv lc : List (Nat × Value)} {v w : Value} (i : Nat) (h : re_rl V ad lv lc) (hv : re_rv V ad v w) : re_rl V ad (re_s2 lv i v) ((i, w) :: lc.filter (fun q => !(q.1 == i) && (!(q.1 == i + 1) && !(q.1 + 1 == i && q.2.category == 2)))) :=
  re_rl_cons i hv (re_rl_filter (fun j => !(j == i) && (!(j == i + 1) && !(j + 1 == i && re_c2 lv j))) _ (fun j u w' h1 h2 h3 => by
    dsimp only at h3 ⊢
    rw [h2, ← re_c2_some h1]
    exact h3) h)
def re_jmp (pc : Nat) (off : Int) : Option Nat := match (pc : Int) + off with
  | .ofNat t => some t
  | .negSucc _ => none
theorem re_jmp_ok {pc t : Nat} {off : Int} (h : re_jmp pc off = some t) : (pc : Int) + off = (t : Int) := by
  unfold re_jmp at h
  split at h
  next n e => cases h; exact e
  next => cases h
def re_icond (c : Jvm.ClassFile.Cond) (x y : Int32) : Bool := match c with
  | .eq => decide (x = y)
  | .ne => decide (¬ x = y)
  | .lt => decide (x < y)
  | .ge => decide (y ≤ x)
  | .gt => decide (y < x)
  | .le => decide (x ≤ y)
end REV
end
section
/-- answers for comparisons of ints that nobody looks at -/
abbrev re_O : Type := Jvm.ClassFile.Cond → Value → Value → Option Bool
def re_pure (O : re_O) (nL pc : Nat) (lv : List (Nat × Value)) (st : List Value) (ins : Instr) : Option (Nat × List (Nat × Value) × List Value) := match ins with
  | .iconst n => some (pc + 1, lv, .int (Int32.ofInt n) :: st)
  | .bipush n => some (pc + 2, lv, .int (Int8.ofInt n).toInt32 :: st)
  | .sipush n => some (pc + 3, lv, .int (Int16.ofInt n).toInt32 :: st)
  | .lconst n => some (pc + 1, lv, .long (Int64.ofNat (n : Nat)) :: st)
  | .aconst_null => some (pc + 1, lv, .null :: st)
  | .iload i => match re_lk lv i with
    | some (.int x) => some (pc + 2, lv, .int x :: st)
    | some (.float x) => some (pc + 2, lv, .float x :: st)
    | _ => none
  | .iload_n k => match re_lk lv (k : Nat) with
    | some (.int x) => some (pc + 1, lv, .int x :: st)
    | some (.float x) => some (pc + 1, lv, .float x :: st)
    | _ => none
  | .lload i => match re_lk lv i with
    | some (.long x) => some (pc + 2, lv, .long x :: st)
    | some (.double x) => some (pc + 2, lv, .double x :: st)
    | _ => none
  | .lload_n k => match re_lk lv (k : Nat) with
    | some (.long x) => some (pc + 1, lv, .long x :: st)
    | some (.double x) => some (pc + 1, lv, .double x :: st)
    | _ => none
  | .aload i => match re_lk lv i with
    | some (.ref x) => some (pc + 2, lv, .ref x :: st)
    | some .null => some (pc + 2, lv, .null :: st)
    | some (.retAddr x) => some (pc + 2, lv, .retAddr x :: st)
    | _ => none
  | .aload_n k => match re_lk lv (k : Nat) with
    | some (.ref x) => some (pc + 1, lv, .ref x :: st)
    | some .null => some (pc + 1, lv, .null :: st)
    | some (.retAddr x) => some (pc + 1, lv, .retAddr x :: st)
    | _ => none
  | .istore i => match st with
    | .int x :: r => if i < nL then some (pc + 2, re_s1 lv i (.int x), r) else none
    | .float x :: r => if i < nL then some (pc + 2, re_s1 lv i (.float x), r) else none
    | _ => none
  | .istore_n k => match st with
    | .int x :: r => if (k : Nat) < nL then some (pc + 1, re_s1 lv (k : Nat) (.int x), r) else none
    | .float x :: r => if (k : Nat) < nL then some (pc + 1, re_s1 lv (k : Nat) (.float x), r) else none
    | _ => none
  | .lstore i => match st with
    | .long x :: r => if i + 1 < nL then some (pc + 2, re_s2 lv i (.long x), r) else none
    | .double x :: r => if i + 1 < nL then some (pc + 2, re_s2 lv i (.double x), r) else none
    | _ => none
  | .lstore_n k => match st with
    | .long x :: r => if (k : Nat) + 1 < nL then some (pc + 1, re_s2 lv (k : Nat) (.long x), r) else none
    | .double x :: r => if (k : Nat) + 1 < nL then some (pc + 1, re_s2 lv (k : Nat) (.double x), r) else none
    | _ => none
  | .astore i => match st with
    | .ref x :: r => if i < nL then some (pc + 2, re_s1 lv i (.ref x), r) else none
    | .null :: r => if i < nL then some (pc + 2, re_s1 lv i .null, r) else none
    | .retAddr x :: r => if i < nL then some (pc + 2, re_s1 lv i (.retAddr x), r) else none
    | _ => none
  | .astore_n k => match st with
    | .ref x :: r => if (k : Nat) < nL then some (pc + 1, re_s1 lv (k : Nat) (.ref x), r) else none
    | .null :: r => if (k : Nat) < nL then some (pc + 1, re_s1 lv (k : Nat) .null, r) else none
    | .retAddr x :: r => if (k : Nat) < nL then some (pc + 1, re_s1 lv (k : Nat) (.retAddr x), r) else none
    | _ => none
  | .iinc i n => match re_lk lv i with
    | some (.int x) => if i < nL then some (pc + 3, re_s1 lv i (.int (x + Int32.ofInt n)), st) else none
    | _ => none
  | .iadd => match st with
    | .int y :: .int x :: r => some (pc + 1, lv, .int (x + y) :: r)
    | _ => none
  | .isub => match st with
    | .int y :: .int x :: r => some (pc + 1, lv, .int (x - y) :: r)
    | _ => none
  | .imul => match st with
    | .int y :: .int x :: r => some (pc + 1, lv, .int (x * y) :: r)
    | _ => none
  | .iand => match st with
    | .int y :: .int x :: r => some (pc + 1, lv, .int (x &&& y) :: r)
    | _ => none
  | .ior => match st with
    | .int y :: .int x :: r => some (pc + 1, lv, .int (x ||| y) :: r)
    | _ => none
  | .ixor => match st with
    | .int y :: .int x :: r => some (pc + 1, lv, .int (x ^^^ y) :: r)
    | _ => none
  | .ishl => match st with
    | .int y :: .int x :: r => some (pc + 1, lv, .int (x <<< (y &&& 31)) :: r)
    | _ => none
  | .ishr => match st with
    | .int y :: .int x :: r => some (pc + 1, lv, .int (x >>> (y &&& 31)) :: r)
    | _ => none
  | .iushr => match st with
    | .int y :: .int x :: r => some (pc + 1, lv, .int (x.toUInt32 >>> (y.toUInt32 &&& Int32.toUInt32 31)).toInt32 :: r)
    | _ => none
  | .irem => match st with
    | .int y :: .int x :: r => if y = 0 then none else some (pc + 1, lv, .int (x - x / y * y) :: r)
    | _ => none
  | .idiv => match st with
    | .int y :: .int x :: r => if y = 0 then none else some (pc + 1, lv, .int (x / y) :: r)
    | _ => none
  | .lshr => match st with
    | .int y :: .long x :: r => some (pc + 1, lv, .long (x >>> (y.toInt64 &&& 63)) :: r)
    | _ => none
  | .ladd => match st with
    | .long y :: .long x :: r => some (pc + 1, lv, .long (x + y) :: r)
    | _ => none
  | .lsub => match st with
    | .long y :: .long x :: r => some (pc + 1, lv, .long (x - y) :: r)
    | _ => none
  | .lmul => match st with
    | .long y :: .long x :: r => some (pc + 1, lv, .long (x * y) :: r)
    | _ => none
  | .land => match st with
    | .long y :: .long x :: r => some (pc + 1, lv, .long (x &&& y) :: r)
    | _ => none
  | .lor => match st with
    | .long y :: .long x :: r => some (pc + 1, lv, .long (x ||| y) :: r)
    | _ => none
  | .lxor => match st with
    | .long y :: .long x :: r => some (pc + 1, lv, .long (x ^^^ y) :: r)
    | _ => none
  | .lshl => match st with
    | .int y :: .long x :: r => some (pc + 1, lv, .long (x <<< (y.toInt64 &&& 63)) :: r)
    | _ => none
  | .i2l => match st with
    | .int x :: r => some (pc + 1, lv, .long x.toInt64 :: r)
    | _ => none
  | .l2i => match st with
    | .long x :: r => some (pc + 1, lv, .int x.toInt32 :: r)
    | _ => none
  | .dup => match st with
    | .int x :: r => some (pc + 1, lv, .int x :: .int x :: r)
    | .ref x :: r => some (pc + 1, lv, .ref x :: .ref x :: r)
    | .float x :: r => some (pc + 1, lv, .float x :: .float x :: r)
    | .retAddr x :: r => some (pc + 1, lv, .retAddr x :: .retAddr x :: r)
    | _ => none
  | .dup_x1 => match st with
    | .int x :: .ref i :: r => some (pc + 1, lv, .int x :: .ref i :: .int x :: r)
    | .ref x :: .ref i :: r => some (pc + 1, lv, .ref x :: .ref i :: .ref x :: r)
    | _ => none
  | .dup2 => match st with
    | .int x :: .ref i :: r => some (pc + 1, lv, .int x :: .ref i :: .int x :: .ref i :: r)
    | _ => none
  | .pop => match st with
    | .int _ :: r => some (pc + 1, lv, r)
    | .ref _ :: r => some (pc + 1, lv, r)
    | .null :: r => some (pc + 1, lv, r)
    | _ => none
  | .if_icmp cd off => match st, re_jmp pc off with
    | .int y :: .int x :: r, some t => some (bif re_icond cd x y then t else pc + 3, lv, r)
    | .int y :: .float x :: r, some t => match O cd (.float x) (.int y) with
      | some b => some (bif b then t else pc + 3, lv, r)
      | none => none
    | .float y :: .int x :: r, some t => match O cd (.int x) (.float y) with
      | some b => some (bif b then t else pc + 3, lv, r)
      | none => none
    | .float y :: .float x :: r, some t => match O cd (.float x) (.float y) with
      | some b => some (bif b then t else pc + 3, lv, r)
      | none => none
    | _, _ => none
  | .ifCond cd off => match st, re_jmp pc off with
    | .int x :: r, some t => some (bif re_icond cd x 0 then t else pc + 3, lv, r)
    | .float x :: r, some t => match O cd (.float x) (.int 0) with
      | some b => some (bif b then t else pc + 3, lv, r)
      | none => none
    | _, _ => none
  | .goto off => match re_jmp pc off with
    | some t => some (t, lv, st)
    | none => none
  | .ifnull off => match st, re_jmp pc off with
    | .ref _ :: r, some _ => some (pc + 3, lv, r)
    | .null :: r, some t => some (t, lv, r)
    | .retAddr _ :: r, some _ => some (pc + 3, lv, r)
    | _, _ => none
  | .ifnonnull off => match st, re_jmp pc off with
    | .ref _ :: r, some t => some (t, lv, r)
    | .null :: r, some _ => some (pc + 3, lv, r)
    | .retAddr _ :: r, some t => some (t, lv, r)
    | _, _ => none
  | .lcmp => match st with
    | .long y :: .long x :: r => some (pc + 1, lv, .int (lg_cmp x y) :: r)
    | _ => none
  | .tableswitch dflt lo hi offs => match st with
    | .int x :: r => if x.toInt < lo ∨ hi < x.toInt then (match re_jmp pc dflt with
        | some t => some (t, lv, r)
        | none => none) else match offs[(x.toInt - lo).toNat]? with
      | some off => match re_jmp pc off with
        | some t => some (t, lv, r)
        | none => none
      | none => none
    | _ => none
  | _ => none
end
section
/-! re_pure is what the machine does. -/
section REP
variable {V : re_V}
theorem re_rs_i {ad : List Nat} {y : Int32} {st sc : List Value} (h : re_rs V ad (.int y :: st) sc) : ∃ sr, sc = .int y :: sr ∧ re_rs V ad st sr := by
  obtain ⟨w, sr, rfl, e, h2⟩ := re_rs_cons h
  exact ⟨sr, by rw [show w = .int y from e], h2⟩
theorem re_rs_l {ad : List Nat} {y : Int64} {st sc : List Value} (h : re_rs V ad (.long y :: st) sc) : ∃ sr, sc = .long y :: sr ∧ re_rs V ad st sr := by
  obtain ⟨w, sr, rfl, e, h2⟩ := re_rs_cons h
  exact ⟨sr, by rw [show w = .long y from e], h2⟩
theorem re_rs_n {ad : List Nat} {st sc : List Value} (h : re_rs V ad (.null :: st) sc) : ∃ sr, sc = .null :: sr ∧ re_rs V ad st sr := by
  obtain ⟨w, sr, rfl, e, h2⟩ := re_rs_cons h
  exact ⟨sr, by rw [show w = .null from e], h2⟩
theorem re_rs_r {ad : List Nat} {i : Nat} {st sc : List Value} (h : re_rs V ad (.ref i :: st) sc) : ∃ a sr, sc = .ref a :: sr ∧ ad[i]? = some a ∧ re_rs V ad st sr := by
  obtain ⟨w, sr, rfl, e, h2⟩ := re_rs_cons h
  obtain ⟨a, h3, rfl⟩ := e
  exact ⟨a, sr, rfl, h3, h2⟩
theorem re_rs_f {ad : List Nat} {n : UInt32} {st sc : List Value} (h : re_rs V ad (.float n :: st) sc) : ∃ sr, sc = .int (V.2.1 n.toNat) :: sr ∧ re_rs V ad st sr := by
  obtain ⟨w, sr, rfl, e, h2⟩ := re_rs_cons h
  exact ⟨sr, by rw [show w = .int (V.2.1 n.toNat) from e], h2⟩
theorem re_rs_d {ad : List Nat} {n : UInt64} {st sc : List Value} (h : re_rs V ad (.double n :: st) sc) : ∃ sr, sc = .long (V.2.2.1 n.toNat) :: sr ∧ re_rs V ad st sr := by
  obtain ⟨w, sr, rfl, e, h2⟩ := re_rs_cons h
  exact ⟨sr, by rw [show w = .long (V.2.2.1 n.toNat) from e], h2⟩
theorem re_rs_x {ad : List Nat} {n : Nat} {st sc : List Value} (h : re_rs V ad (.retAddr n :: st) sc) : ∃ sr, sc = .ref (V.1 n) :: sr ∧ re_rs V ad st sr := by
  obtain ⟨w, sr, rfl, e, h2⟩ := re_rs_cons h
  exact ⟨sr, by rw [show w = .ref (V.1 n) from e], h2⟩
/-- the answers are right -/
def re_Ook (V : re_V) (O : re_O) : Prop := ∀ (cd : Jvm.ClassFile.Cond) (u v : Value) (b : Bool) (x y : Int32), O cd u v = some b → re_rv V [] u (.int x) → re_rv V [] v (.int y) → re_icond cd x y = b
variable {p : Program} {l : Launch} {e : Env} {R : Room} {s : State} {m : MethodId} {args : Array Value} {below : List Frame} {meth : Method} {c : Code} {H : Heap} {locs : List Loc} {cells slots : Nat} {Q : State → Prop} {cc : ByteArray} {pc : Nat} {ls : Array Slot} {O : re_O}
theorem re_icmp_ok (hx : p.tables.exec = Jvm.exec) (hb : c.code = cc) {x y : Int32} {cd : Jvm.ClassFile.Cond} {off : Int} {tgt : Nat} {rest : List Value} (hdg : decode cc pc = .ok (.if_icmp cd off, 3)) (ht : (pc : Int) + off = (tgt : Int))
    (k : W p l e R s m args below meth c H locs cells slots Q (F0 m (bif re_icond cd x y then tgt else pc + 3) ls rest)) : W p l e R s m args below meth c H locs cells slots Q (F0 m pc ls (.int y :: .int x :: rest)) := by
  cases cd
  · refine lv_icmp_eq hx hb hdg ht (fun q => ?_) (fun q => ?_)
    · rw [show re_icond .eq x y = true from decide_eq_true q] at k; exact k
    · rw [show re_icond .eq x y = false from decide_eq_false q] at k; exact k
  · refine lv_icmp_ne hx hb hdg ht (fun q => ?_) (fun q => ?_)
    · rw [show re_icond .ne x y = true from decide_eq_true q] at k; exact k
    · rw [show re_icond .ne x y = false from decide_eq_false (fun z => z q)] at k; exact k
  · refine lv_icmp_lt hx hb hdg ht (fun q => ?_) (fun q => ?_)
    · rw [show re_icond .lt x y = true from decide_eq_true q] at k; exact k
    · rw [show re_icond .lt x y = false from decide_eq_false q] at k; exact k
  · refine lv_icmp_ge hx hb hdg ht (fun q => ?_) (fun q => ?_)
    · rw [show re_icond .ge x y = true from decide_eq_true q] at k; exact k
    · rw [show re_icond .ge x y = false from decide_eq_false q] at k; exact k
  · refine lv_icmp_gt hx hb hdg ht (fun q => ?_) (fun q => ?_)
    · rw [show re_icond .gt x y = true from decide_eq_true q] at k; exact k
    · rw [show re_icond .gt x y = false from decide_eq_false q] at k; exact k
  · refine lv_icmp_le hx hb hdg ht (fun q => ?_) (fun q => ?_)
    · rw [show re_icond .le x y = true from decide_eq_true q] at k; exact k
    · rw [show re_icond .le x y = false from decide_eq_false q] at k; exact k
theorem re_if_ok (hx : p.tables.exec = Jvm.exec) (hb : c.code = cc) {x : Int32} {cd : Jvm.ClassFile.Cond} {off : Int} {tgt : Nat} {rest : List Value} (hdg : decode cc pc = .ok (.ifCond cd off, 3)) (ht : (pc : Int) + off = (tgt : Int))
    (k : W p l e R s m args below meth c H locs cells slots Q (F0 m (bif re_icond cd x 0 then tgt else pc + 3) ls rest)) : W p l e R s m args below meth c H locs cells slots Q (F0 m pc ls (.int x :: rest)) := by
  cases cd
  · refine lv_if_eq hx hb hdg ht (fun q => ?_) (fun q => ?_)
    · rw [show re_icond .eq x 0 = true from decide_eq_true q] at k; exact k
    · rw [show re_icond .eq x 0 = false from decide_eq_false q] at k; exact k
  · refine lv_if_ne hx hb hdg ht (fun q => ?_) (fun q => ?_)
    · rw [show re_icond .ne x 0 = true from decide_eq_true q] at k; exact k
    · rw [show re_icond .ne x 0 = false from decide_eq_false (fun z => z q)] at k; exact k
  · refine lv_if_lt hx hb hdg ht (fun q => ?_) (fun q => ?_)
    · rw [show re_icond .lt x 0 = true from decide_eq_true q] at k; exact k
    · rw [show re_icond .lt x 0 = false from decide_eq_false q] at k; exact k
  · refine lv_if_ge hx hb hdg ht (fun q => ?_) (fun q => ?_)
    · rw [show re_icond .ge x 0 = true from decide_eq_true q] at k; exact k
    · rw [show re_icond .ge x 0 = false from decide_eq_false q] at k; exact k
  · refine lv_if_gt hx hb hdg ht (fun q => ?_) (fun q => ?_)
    · rw [show re_icond .gt x 0 = true from decide_eq_true q] at k; exact k
    · rw [show re_icond .gt x 0 = false from decide_eq_false q] at k; exact k
  · refine lv_if_le hx hb hdg ht (fun q => ?_) (fun q => ?_)
    · rw [show re_icond .le x 0 = true from decide_eq_true q] at k; exact k
    · rw [show re_icond .le x 0 = false from decide_eq_false q] at k; exact k
theorem re_pure_ok (hx : p.tables.exec = Jvm.exec) (hb : c.code = cc) (hO : re_Ook V O) {nL : Nat} {ad : List Nat} {ins : Instr} {len : Nat} {lv lc lv' : List (Nat × Value)} {st sc st' : List Value} {pc' : Nat}
    (hdg0 : decode cc pc = .ok (ins, len)) (hlen : re_len ins = 0 ∨ len = re_len ins) (h : re_pure O nL pc lv st ins = some (pc', lv', st')) (hl : lv_has ls nL lc) (rl : re_rl V ad lv lc) (rs : re_rs V ad st sc)
    (kk : ∀ (ls' : Array Slot) (lc' : List (Nat × Value)) (sc' : List Value), lv_has ls' nL lc' → re_rl V ad lv' lc' → re_rs V ad st' sc' → W p l e R s m args below meth c H locs cells slots Q (F0 m pc' ls' sc')) : W p l e R s m args below meth c H locs cells slots Q (F0 m pc ls sc) := by
  cases ins
  case iconst n =>
    simp only [re_pure] at h
    have hdg : decode cc pc = .ok (.iconst n, 1) := hlen.elim (fun q => absurd q (by simp [re_len])) (fun q => by rw [hdg0, q]; rfl)
    cases h
    exact lv_iconst hx hb hdg rfl (kk _ _ _ hl rl ⟨rfl, rs⟩)
  case bipush n =>
    simp only [re_pure] at h
    have hdg : decode cc pc = .ok (.bipush n, 2) := hlen.elim (fun q => absurd q (by simp [re_len])) (fun q => by rw [hdg0, q]; rfl)
    cases h
    exact lv_bipush hx hb hdg rfl (kk _ _ _ hl rl ⟨rfl, rs⟩)
  case sipush n =>
    simp only [re_pure] at h
    have hdg : decode cc pc = .ok (.sipush n, 3) := hlen.elim (fun q => absurd q (by simp [re_len])) (fun q => by rw [hdg0, q]; rfl)
    cases h
    exact lv_sipush hx hb hdg rfl (kk _ _ _ hl rl ⟨rfl, rs⟩)
  case lconst n =>
    simp only [re_pure] at h
    have hdg : decode cc pc = .ok (.lconst n, 1) := hlen.elim (fun q => absurd q (by simp [re_len])) (fun q => by rw [hdg0, q]; rfl)
    cases h
    exact lv_lconst hx hb hdg rfl (kk _ _ _ hl rl ⟨rfl, rs⟩)
  case aconst_null  =>
    simp only [re_pure] at h
    have hdg : decode cc pc = .ok (.aconst_null, 1) := hlen.elim (fun q => absurd q (by simp [re_len])) (fun q => by rw [hdg0, q]; rfl)
    cases h
    exact lv_null hx hb hdg (kk _ _ _ hl rl ⟨rfl, rs⟩)
  case iload i =>
    simp only [re_pure] at h
    have hdg : decode cc pc = .ok (.iload i, 2) := hlen.elim (fun q => absurd q (by simp [re_len])) (fun q => by rw [hdg0, q]; rfl)
    split at h
    next x q =>
      cases h
      obtain ⟨k9, w, e1, e2⟩ := re_rl_lk rl q
      cases (show w = _ from e2)
      exact lv_iload hx hb hdg (lv_at hl k9 e1) (kk _ _ _ hl rl ⟨rfl, rs⟩)
    next x q =>
      cases h
      obtain ⟨k9, w, e1, e2⟩ := re_rl_lk rl q
      cases (show w = _ from e2)
      exact lv_iload hx hb hdg (lv_at hl k9 e1) (kk _ _ _ hl rl ⟨rfl, rs⟩)
    next => cases h
  case iload_n k =>
    simp only [re_pure] at h
    have hdg : decode cc pc = .ok (.iload_n k, 1) := hlen.elim (fun q => absurd q (by simp [re_len])) (fun q => by rw [hdg0, q]; rfl)
    split at h
    next x q =>
      cases h
      obtain ⟨k9, w, e1, e2⟩ := re_rl_lk rl q
      cases (show w = _ from e2)
      exact lv_iload_n hx hb hdg rfl (lv_at hl k9 e1) (kk _ _ _ hl rl ⟨rfl, rs⟩)
    next x q =>
      cases h
      obtain ⟨k9, w, e1, e2⟩ := re_rl_lk rl q
      cases (show w = _ from e2)
      exact lv_iload_n hx hb hdg rfl (lv_at hl k9 e1) (kk _ _ _ hl rl ⟨rfl, rs⟩)
    next => cases h
  case lload i =>
    simp only [re_pure] at h
    have hdg : decode cc pc = .ok (.lload i, 2) := hlen.elim (fun q => absurd q (by simp [re_len])) (fun q => by rw [hdg0, q]; rfl)
    split at h
    next x q =>
      cases h
      obtain ⟨k9, w, e1, e2⟩ := re_rl_lk rl q
      cases (show w = _ from e2)
      exact lv_lload hx hb hdg (lv_at hl k9 e1) (kk _ _ _ hl rl ⟨rfl, rs⟩)
    next x q =>
      cases h
      obtain ⟨k9, w, e1, e2⟩ := re_rl_lk rl q
      cases (show w = _ from e2)
      exact lv_lload hx hb hdg (lv_at hl k9 e1) (kk _ _ _ hl rl ⟨rfl, rs⟩)
    next => cases h
  case lload_n k =>
    simp only [re_pure] at h
    have hdg : decode cc pc = .ok (.lload_n k, 1) := hlen.elim (fun q => absurd q (by simp [re_len])) (fun q => by rw [hdg0, q]; rfl)
    split at h
    next x q =>
      cases h
      obtain ⟨k9, w, e1, e2⟩ := re_rl_lk rl q
      cases (show w = _ from e2)
      exact lv_lload_n hx hb hdg rfl (lv_at hl k9 e1) (kk _ _ _ hl rl ⟨rfl, rs⟩)
    next x q =>
      cases h
      obtain ⟨k9, w, e1, e2⟩ := re_rl_lk rl q
      cases (show w = _ from e2)
      exact lv_lload_n hx hb hdg rfl (lv_at hl k9 e1) (kk _ _ _ hl rl ⟨rfl, rs⟩)
    next => cases h
  case aload i =>
    simp only [re_pure] at h
    have hdg : decode cc pc = .ok (.aload i, 2) := hlen.elim (fun q => absurd q (by simp [re_len])) (fun q => by rw [hdg0, q]; rfl)
    split at h
    next x q =>
      cases h
      obtain ⟨k9, w, e1, a9, e2, rfl⟩ := re_rl_lk rl q
      exact lv_aload hx hb hdg (lv_at hl k9 e1) (kk _ _ _ hl rl ⟨⟨a9, e2, rfl⟩, rs⟩)
    next q =>
      cases h
      obtain ⟨k9, w, e1, e2⟩ := re_rl_lk rl q
      cases (show w = _ from e2)
      exact lv_aloadN hx hb hdg (lv_at hl k9 e1) (kk _ _ _ hl rl ⟨rfl, rs⟩)
    next x q =>
      cases h
      obtain ⟨k9, w, e1, e2⟩ := re_rl_lk rl q
      cases (show w = _ from e2)
      exact lv_aload hx hb hdg (lv_at hl k9 e1) (kk _ _ _ hl rl ⟨rfl, rs⟩)
    next => cases h
  case aload_n k =>
    simp only [re_pure] at h
    have hdg : decode cc pc = .ok (.aload_n k, 1) := hlen.elim (fun q => absurd q (by simp [re_len])) (fun q => by rw [hdg0, q]; rfl)
    split at h
    next x q =>
      cases h
      obtain ⟨k9, w, e1, a9, e2, rfl⟩ := re_rl_lk rl q
      exact lv_aload_n hx hb hdg rfl (lv_at hl k9 e1) (kk _ _ _ hl rl ⟨⟨a9, e2, rfl⟩, rs⟩)
    next q =>
      cases h
      obtain ⟨k9, w, e1, e2⟩ := re_rl_lk rl q
      cases (show w = _ from e2)
      exact lv_aload_nN hx hb hdg rfl (lv_at hl k9 e1) (kk _ _ _ hl rl ⟨rfl, rs⟩)
    next x q =>
      cases h
      obtain ⟨k9, w, e1, e2⟩ := re_rl_lk rl q
      cases (show w = _ from e2)
      exact lv_aload_n hx hb hdg rfl (lv_at hl k9 e1) (kk _ _ _ hl rl ⟨rfl, rs⟩)
    next => cases h
  case istore i =>
    simp only [re_pure] at h
    have hdg : decode cc pc = .ok (.istore i, 2) := hlen.elim (fun q => absurd q (by simp [re_len])) (fun q => by rw [hdg0, q]; rfl)
    split at h
    next x r =>
      split at h
      next hi =>
        cases h
        obtain ⟨_, rfl, rs1⟩ := re_rs_i rs
        exact lv_istore hx hb hdg hl hi rfl (fun ls9 hl9 => kk _ _ _ hl9 (re_rl_s1 _ rl rfl) rs1)
      next => cases h
    next x r =>
      split at h
      next hi =>
        cases h
        obtain ⟨_, rfl, rs1⟩ := re_rs_f rs
        exact lv_istore hx hb hdg hl hi rfl (fun ls9 hl9 => kk _ _ _ hl9 (re_rl_s1 _ rl rfl) rs1)
      next => cases h
    next => cases h
  case istore_n k =>
    simp only [re_pure] at h
    have hdg : decode cc pc = .ok (.istore_n k, 1) := hlen.elim (fun q => absurd q (by simp [re_len])) (fun q => by rw [hdg0, q]; rfl)
    split at h
    next x r =>
      split at h
      next hi =>
        cases h
        obtain ⟨_, rfl, rs1⟩ := re_rs_i rs
        exact lv_istore_n hx hb hdg rfl hl hi rfl (fun ls9 hl9 => kk _ _ _ hl9 (re_rl_s1 _ rl rfl) rs1)
      next => cases h
    next x r =>
      split at h
      next hi =>
        cases h
        obtain ⟨_, rfl, rs1⟩ := re_rs_f rs
        exact lv_istore_n hx hb hdg rfl hl hi rfl (fun ls9 hl9 => kk _ _ _ hl9 (re_rl_s1 _ rl rfl) rs1)
      next => cases h
    next => cases h
  case lstore i =>
    simp only [re_pure] at h
    have hdg : decode cc pc = .ok (.lstore i, 2) := hlen.elim (fun q => absurd q (by simp [re_len])) (fun q => by rw [hdg0, q]; rfl)
    split at h
    next x r =>
      split at h
      next hi =>
        cases h
        obtain ⟨_, rfl, rs1⟩ := re_rs_l rs
        exact lv_lstore hx hb hdg hl hi rfl (fun ls9 hl9 => kk _ _ _ hl9 (re_rl_s2 _ rl rfl) rs1)
      next => cases h
    next x r =>
      split at h
      next hi =>
        cases h
        obtain ⟨_, rfl, rs1⟩ := re_rs_d rs
        exact lv_lstore hx hb hdg hl hi rfl (fun ls9 hl9 => kk _ _ _ hl9 (re_rl_s2 _ rl rfl) rs1)
      next => cases h
    next => cases h
  case lstore_n k =>
    simp only [re_pure] at h
    have hdg : decode cc pc = .ok (.lstore_n k, 1) := hlen.elim (fun q => absurd q (by simp [re_len])) (fun q => by rw [hdg0, q]; rfl)
    split at h
    next x r =>
      split at h
      next hi =>
        cases h
        obtain ⟨_, rfl, rs1⟩ := re_rs_l rs
        exact lv_lstore_n hx hb hdg rfl hl hi rfl (fun ls9 hl9 => kk _ _ _ hl9 (re_rl_s2 _ rl rfl) rs1)
      next => cases h
    next x r =>
      split at h
      next hi =>
        cases h
        obtain ⟨_, rfl, rs1⟩ := re_rs_d rs
        exact lv_lstore_n hx hb hdg rfl hl hi rfl (fun ls9 hl9 => kk _ _ _ hl9 (re_rl_s2 _ rl rfl) rs1)
      next => cases h
    next => cases h
  case astore i =>
    simp only [re_pure] at h
    have hdg : decode cc pc = .ok (.astore i, 2) := hlen.elim (fun q => absurd q (by simp [re_len])) (fun q => by rw [hdg0, q]; rfl)
    split at h
    next x r =>
      split at h
      next hi =>
        cases h
        obtain ⟨a9, _, rfl, e2, rs1⟩ := re_rs_r rs
        exact lv_astore hx hb hdg hl hi rfl (fun ls9 hl9 => kk _ _ _ hl9 (re_rl_s1 _ rl ⟨a9, e2, rfl⟩) rs1)
      next => cases h
    next r =>
      split at h
      next hi =>
        cases h
        obtain ⟨_, rfl, rs1⟩ := re_rs_n rs
        exact lv_astoreN hx hb hdg hl hi rfl (fun ls9 hl9 => kk _ _ _ hl9 (re_rl_s1 _ rl rfl) rs1)
      next => cases h
    next x r =>
      split at h
      next hi =>
        cases h
        obtain ⟨_, rfl, rs1⟩ := re_rs_x rs
        exact lv_astore hx hb hdg hl hi rfl (fun ls9 hl9 => kk _ _ _ hl9 (re_rl_s1 _ rl rfl) rs1)
      next => cases h
    next => cases h
  case astore_n k =>
    simp only [re_pure] at h
    have hdg : decode cc pc = .ok (.astore_n k, 1) := hlen.elim (fun q => absurd q (by simp [re_len])) (fun q => by rw [hdg0, q]; rfl)
    split at h
    next x r =>
      split at h
      next hi =>
        cases h
        obtain ⟨a9, _, rfl, e2, rs1⟩ := re_rs_r rs
        exact lv_astore_n hx hb hdg rfl hl hi rfl (fun ls9 hl9 => kk _ _ _ hl9 (re_rl_s1 _ rl ⟨a9, e2, rfl⟩) rs1)
      next => cases h
    next r =>
      split at h
      next hi =>
        cases h
        obtain ⟨_, rfl, rs1⟩ := re_rs_n rs
        exact lv_astore_nN hx hb hdg rfl hl hi rfl (fun ls9 hl9 => kk _ _ _ hl9 (re_rl_s1 _ rl rfl) rs1)
      next => cases h
    next x r =>
      split at h
      next hi =>
        cases h
        obtain ⟨_, rfl, rs1⟩ := re_rs_x rs
        exact lv_astore_n hx hb hdg rfl hl hi rfl (fun ls9 hl9 => kk _ _ _ hl9 (re_rl_s1 _ rl rfl) rs1)
      next => cases h
    next => cases h
  case iinc i n =>
    simp only [re_pure] at h
    have hdg : decode cc pc = .ok (.iinc i n, 3) := hlen.elim (fun q => absurd q (by simp [re_len])) (fun q => by rw [hdg0, q]; rfl)
    split at h
    next x q =>
      split at h
      next hi =>
        cases h
        obtain ⟨k9, w, e1, e2⟩ := re_rl_lk rl q
        cases (show w = _ from e2)
        exact lv_iinc hx hb hdg hl e1 rfl hi rfl (fun ls9 hl9 => kk _ _ _ hl9 (re_rl_s1 _ rl rfl) rs)
      next => cases h
    next => cases h
  case iadd  =>
    simp only [re_pure] at h
    have hdg : decode cc pc = .ok (.iadd, 1) := hlen.elim (fun q => absurd q (by simp [re_len])) (fun q => by rw [hdg0, q]; rfl)
    split at h
    next y x r =>
      cases h
      obtain ⟨_, rfl, rs1⟩ := re_rs_i rs
      obtain ⟨_, rfl, rs2⟩ := re_rs_i rs1
      exact lv_iadd hx hb hdg (kk _ _ _ hl rl ⟨rfl, rs2⟩)
    next => cases h
  case isub  =>
    simp only [re_pure] at h
    have hdg : decode cc pc = .ok (.isub, 1) := hlen.elim (fun q => absurd q (by simp [re_len])) (fun q => by rw [hdg0, q]; rfl)
    split at h
    next y x r =>
      cases h
      obtain ⟨_, rfl, rs1⟩ := re_rs_i rs
      obtain ⟨_, rfl, rs2⟩ := re_rs_i rs1
      exact lv_isub hx hb hdg (kk _ _ _ hl rl ⟨rfl, rs2⟩)
    next => cases h
  case imul  =>
    simp only [re_pure] at h
    have hdg : decode cc pc = .ok (.imul, 1) := hlen.elim (fun q => absurd q (by simp [re_len])) (fun q => by rw [hdg0, q]; rfl)
    split at h
    next y x r =>
      cases h
      obtain ⟨_, rfl, rs1⟩ := re_rs_i rs
      obtain ⟨_, rfl, rs2⟩ := re_rs_i rs1
      exact lv_imul hx hb hdg (kk _ _ _ hl rl ⟨rfl, rs2⟩)
    next => cases h
  case iand  =>
    simp only [re_pure] at h
    have hdg : decode cc pc = .ok (.iand, 1) := hlen.elim (fun q => absurd q (by simp [re_len])) (fun q => by rw [hdg0, q]; rfl)
    split at h
    next y x r =>
      cases h
      obtain ⟨_, rfl, rs1⟩ := re_rs_i rs
      obtain ⟨_, rfl, rs2⟩ := re_rs_i rs1
      exact lv_iand hx hb hdg (kk _ _ _ hl rl ⟨rfl, rs2⟩)
    next => cases h
  case ior  =>
    simp only [re_pure] at h
    have hdg : decode cc pc = .ok (.ior, 1) := hlen.elim (fun q => absurd q (by simp [re_len])) (fun q => by rw [hdg0, q]; rfl)
    split at h
    next y x r =>
      cases h
      obtain ⟨_, rfl, rs1⟩ := re_rs_i rs
      obtain ⟨_, rfl, rs2⟩ := re_rs_i rs1
      exact lv_ior hx hb hdg (kk _ _ _ hl rl ⟨rfl, rs2⟩)
    next => cases h
  case ixor  =>
    simp only [re_pure] at h
    have hdg : decode cc pc = .ok (.ixor, 1) := hlen.elim (fun q => absurd q (by simp [re_len])) (fun q => by rw [hdg0, q]; rfl)
    split at h
    next y x r =>
      cases h
      obtain ⟨_, rfl, rs1⟩ := re_rs_i rs
      obtain ⟨_, rfl, rs2⟩ := re_rs_i rs1
      exact lv_ixor hx hb hdg (kk _ _ _ hl rl ⟨rfl, rs2⟩)
    next => cases h
  case ishl  =>
    simp only [re_pure] at h
    have hdg : decode cc pc = .ok (.ishl, 1) := hlen.elim (fun q => absurd q (by simp [re_len])) (fun q => by rw [hdg0, q]; rfl)
    split at h
    next y x r =>
      cases h
      obtain ⟨_, rfl, rs1⟩ := re_rs_i rs
      obtain ⟨_, rfl, rs2⟩ := re_rs_i rs1
      exact lv_ishl hx hb hdg (kk _ _ _ hl rl ⟨rfl, rs2⟩)
    next => cases h
  case ishr  =>
    simp only [re_pure] at h
    have hdg : decode cc pc = .ok (.ishr, 1) := hlen.elim (fun q => absurd q (by simp [re_len])) (fun q => by rw [hdg0, q]; rfl)
    split at h
    next y x r =>
      cases h
      obtain ⟨_, rfl, rs1⟩ := re_rs_i rs
      obtain ⟨_, rfl, rs2⟩ := re_rs_i rs1
      exact lv_ishr hx hb hdg (kk _ _ _ hl rl ⟨rfl, rs2⟩)
    next => cases h
  case iushr  =>
    simp only [re_pure] at h
    have hdg : decode cc pc = .ok (.iushr, 1) := hlen.elim (fun q => absurd q (by simp [re_len])) (fun q => by rw [hdg0, q]; rfl)
    split at h
    next y x r =>
      cases h
      obtain ⟨_, rfl, rs1⟩ := re_rs_i rs
      obtain ⟨_, rfl, rs2⟩ := re_rs_i rs1
      exact lv_iushr hx hb hdg rfl (kk _ _ _ hl rl ⟨rfl, rs2⟩)
    next => cases h
  case irem  =>
    simp only [re_pure] at h
    have hdg : decode cc pc = .ok (.irem, 1) := hlen.elim (fun q => absurd q (by simp [re_len])) (fun q => by rw [hdg0, q]; rfl)
    split at h
    next y x r =>
      split at h
      next => cases h
      next hy =>
        cases h
        obtain ⟨_, rfl, rs1⟩ := re_rs_i rs
        obtain ⟨_, rfl, rs2⟩ := re_rs_i rs1
        exact lv_irem hx hb hdg hy (kk _ _ _ hl rl ⟨rfl, rs2⟩)
    next => cases h
  case idiv  =>
    simp only [re_pure] at h
    have hdg : decode cc pc = .ok (.idiv, 1) := hlen.elim (fun q => absurd q (by simp [re_len])) (fun q => by rw [hdg0, q]; rfl)
    split at h
    next y x r =>
      split at h
      next => cases h
      next hy =>
        cases h
        obtain ⟨_, rfl, rs1⟩ := re_rs_i rs
        obtain ⟨_, rfl, rs2⟩ := re_rs_i rs1
        exact lv_idiv hx hb hdg hy (kk _ _ _ hl rl ⟨rfl, rs2⟩)
    next => cases h
  case ladd  =>
    simp only [re_pure] at h
    have hdg : decode cc pc = .ok (.ladd, 1) := hlen.elim (fun q => absurd q (by simp [re_len])) (fun q => by rw [hdg0, q]; rfl)
    split at h
    next y x r =>
      cases h
      obtain ⟨_, rfl, rs1⟩ := re_rs_l rs
      obtain ⟨_, rfl, rs2⟩ := re_rs_l rs1
      exact lv_ladd hx hb hdg (kk _ _ _ hl rl ⟨rfl, rs2⟩)
    next => cases h
  case lsub  =>
    simp only [re_pure] at h
    have hdg : decode cc pc = .ok (.lsub, 1) := hlen.elim (fun q => absurd q (by simp [re_len])) (fun q => by rw [hdg0, q]; rfl)
    split at h
    next y x r =>
      cases h
      obtain ⟨_, rfl, rs1⟩ := re_rs_l rs
      obtain ⟨_, rfl, rs2⟩ := re_rs_l rs1
      exact lv_lsub hx hb hdg (kk _ _ _ hl rl ⟨rfl, rs2⟩)
    next => cases h
  case lmul  =>
    simp only [re_pure] at h
    have hdg : decode cc pc = .ok (.lmul, 1) := hlen.elim (fun q => absurd q (by simp [re_len])) (fun q => by rw [hdg0, q]; rfl)
    split at h
    next y x r =>
      cases h
      obtain ⟨_, rfl, rs1⟩ := re_rs_l rs
      obtain ⟨_, rfl, rs2⟩ := re_rs_l rs1
      exact lv_lmul hx hb hdg (kk _ _ _ hl rl ⟨rfl, rs2⟩)
    next => cases h
  case land  =>
    simp only [re_pure] at h
    have hdg : decode cc pc = .ok (.land, 1) := hlen.elim (fun q => absurd q (by simp [re_len])) (fun q => by rw [hdg0, q]; rfl)
    split at h
    next y x r =>
      cases h
      obtain ⟨_, rfl, rs1⟩ := re_rs_l rs
      obtain ⟨_, rfl, rs2⟩ := re_rs_l rs1
      exact lv_land hx hb hdg (kk _ _ _ hl rl ⟨rfl, rs2⟩)
    next => cases h
  case lor  =>
    simp only [re_pure] at h
    have hdg : decode cc pc = .ok (.lor, 1) := hlen.elim (fun q => absurd q (by simp [re_len])) (fun q => by rw [hdg0, q]; rfl)
    split at h
    next y x r =>
      cases h
      obtain ⟨_, rfl, rs1⟩ := re_rs_l rs
      obtain ⟨_, rfl, rs2⟩ := re_rs_l rs1
      exact lv_lor hx hb hdg (kk _ _ _ hl rl ⟨rfl, rs2⟩)
    next => cases h
  case lxor  =>
    simp only [re_pure] at h
    have hdg : decode cc pc = .ok (.lxor, 1) := hlen.elim (fun q => absurd q (by simp [re_len])) (fun q => by rw [hdg0, q]; rfl)
    split at h
    next y x r =>
      cases h
      obtain ⟨_, rfl, rs1⟩ := re_rs_l rs
      obtain ⟨_, rfl, rs2⟩ := re_rs_l rs1
      exact lv_lxor hx hb hdg (kk _ _ _ hl rl ⟨rfl, rs2⟩)
    next => cases h
  case lshl  =>
    simp only [re_pure] at h
    have hdg : decode cc pc = .ok (.lshl, 1) := hlen.elim (fun q => absurd q (by simp [re_len])) (fun q => by rw [hdg0, q]; rfl)
    split at h
    next y x r =>
      cases h
      obtain ⟨_, rfl, rs1⟩ := re_rs_i rs
      obtain ⟨_, rfl, rs2⟩ := re_rs_l rs1
      exact lv_lshl hx hb hdg rfl (kk _ _ _ hl rl ⟨rfl, rs2⟩)
    next => cases h
  case lshr  =>
    simp only [re_pure] at h
    have hdg : decode cc pc = .ok (.lshr, 1) := hlen.elim (fun q => absurd q (by simp [re_len])) (fun q => by rw [hdg0, q]; rfl)
    split at h
    next y x r =>
      cases h
      obtain ⟨_, rfl, rs1⟩ := re_rs_i rs
      obtain ⟨_, rfl, rs2⟩ := re_rs_l rs1
      exact lv_lshr hx hb hdg rfl (kk _ _ _ hl rl ⟨rfl, rs2⟩)
    next => cases h
  case lcmp  =>
    simp only [re_pure] at h
    have hdg : decode cc pc = .ok (.lcmp, 1) := hlen.elim (fun q => absurd q (by simp [re_len])) (fun q => by rw [hdg0, q]; rfl)
    split at h
    next y x r =>
      cases h
      obtain ⟨_, rfl, rs1⟩ := re_rs_l rs
      obtain ⟨_, rfl, rs2⟩ := re_rs_l rs1
      exact W.lcmp hx hb hdg (kk _ _ _ hl rl ⟨rfl, rs2⟩)
    next => cases h
  case i2l  =>
    simp only [re_pure] at h
    have hdg : decode cc pc = .ok (.i2l, 1) := hlen.elim (fun q => absurd q (by simp [re_len])) (fun q => by rw [hdg0, q]; rfl)
    split at h
    next x r =>
      cases h
      obtain ⟨_, rfl, rs1⟩ := re_rs_i rs
      exact lv_i2l hx hb hdg rfl (kk _ _ _ hl rl ⟨rfl, rs1⟩)
    next => cases h
  case l2i  =>
    simp only [re_pure] at h
    have hdg : decode cc pc = .ok (.l2i, 1) := hlen.elim (fun q => absurd q (by simp [re_len])) (fun q => by rw [hdg0, q]; rfl)
    split at h
    next x r =>
      cases h
      obtain ⟨_, rfl, rs1⟩ := re_rs_l rs
      exact lv_l2i hx hb hdg rfl (kk _ _ _ hl rl ⟨rfl, rs1⟩)
    next => cases h
  case dup  =>
    simp only [re_pure] at h
    have hdg : decode cc pc = .ok (.dup, 1) := hlen.elim (fun q => absurd q (by simp [re_len])) (fun q => by rw [hdg0, q]; rfl)
    split at h
    next x r =>
      cases h
      obtain ⟨_, rfl, rs1⟩ := re_rs_i rs
      exact lv_dup hx hb hdg rfl (kk _ _ _ hl rl ⟨rfl, rfl, rs1⟩)
    next x r =>
      cases h
      obtain ⟨a9, _, rfl, e2, rs1⟩ := re_rs_r rs
      exact lv_dup hx hb hdg rfl (kk _ _ _ hl rl ⟨⟨a9, e2, rfl⟩, ⟨a9, e2, rfl⟩, rs1⟩)
    next x r =>
      cases h
      obtain ⟨_, rfl, rs1⟩ := re_rs_f rs
      exact lv_dup hx hb hdg rfl (kk _ _ _ hl rl ⟨rfl, rfl, rs1⟩)
    next x r =>
      cases h
      obtain ⟨_, rfl, rs1⟩ := re_rs_x rs
      exact lv_dup hx hb hdg rfl (kk _ _ _ hl rl ⟨rfl, rfl, rs1⟩)
    next => cases h
  case dup_x1  =>
    simp only [re_pure] at h
    have hdg : decode cc pc = .ok (.dup_x1, 1) := hlen.elim (fun q => absurd q (by simp [re_len])) (fun q => by rw [hdg0, q]; rfl)
    split at h
    next x i r =>
      cases h
      obtain ⟨_, rfl, rs1⟩ := re_rs_i rs
      obtain ⟨a9, _, rfl, e2, rs2⟩ := re_rs_r rs1
      exact lv_dup_x1 hx hb hdg rfl rfl (kk _ _ _ hl rl ⟨rfl, ⟨a9, e2, rfl⟩, rfl, rs2⟩)
    next x i r =>
      cases h
      obtain ⟨a8, _, rfl, e1, rs1⟩ := re_rs_r rs
      obtain ⟨a9, _, rfl, e2, rs2⟩ := re_rs_r rs1
      exact lv_dup_x1 hx hb hdg rfl rfl (kk _ _ _ hl rl ⟨⟨a8, e1, rfl⟩, ⟨a9, e2, rfl⟩, ⟨a8, e1, rfl⟩, rs2⟩)
    next => cases h
  case dup2  =>
    simp only [re_pure] at h
    have hdg : decode cc pc = .ok (.dup2, 1) := hlen.elim (fun q => absurd q (by simp [re_len])) (fun q => by rw [hdg0, q]; rfl)
    split at h
    next x i r =>
      cases h
      obtain ⟨_, rfl, rs1⟩ := re_rs_i rs
      obtain ⟨a9, _, rfl, e2, rs2⟩ := re_rs_r rs1
      exact lv_dup2_11 hx hb hdg rfl rfl (kk _ _ _ hl rl ⟨rfl, ⟨a9, e2, rfl⟩, rfl, ⟨a9, e2, rfl⟩, rs2⟩)
    next => cases h
  case pop  =>
    simp only [re_pure] at h
    have hdg : decode cc pc = .ok (.pop, 1) := hlen.elim (fun q => absurd q (by simp [re_len])) (fun q => by rw [hdg0, q]; rfl)
    split at h
    next x r =>
      cases h
      obtain ⟨_, rfl, rs1⟩ := re_rs_i rs
      exact lv_pop hx hb hdg rfl (kk _ _ _ hl rl rs1)
    next x r =>
      cases h
      obtain ⟨a9, _, rfl, e2, rs1⟩ := re_rs_r rs
      exact lv_pop hx hb hdg rfl (kk _ _ _ hl rl rs1)
    next r =>
      cases h
      obtain ⟨_, rfl, rs1⟩ := re_rs_n rs
      exact lv_pop hx hb hdg rfl (kk _ _ _ hl rl rs1)
    next => cases h
  case if_icmp cd off =>
    simp only [re_pure] at h
    have hdg : decode cc pc = .ok (.if_icmp cd off, 3) := hlen.elim (fun q => absurd q (by simp [re_len])) (fun q => by rw [hdg0, q]; rfl)
    split at h
    next y x r t ht =>
      cases h
      obtain ⟨_, rfl, rs1⟩ := re_rs_i rs
      obtain ⟨_, rfl, rs2⟩ := re_rs_i rs1
      exact re_icmp_ok hx hb hdg (re_jmp_ok ht) (kk _ _ _ hl rl rs2)
    next y x r t ht =>
      split at h
      next b hb9 =>
        cases h
        obtain ⟨_, rfl, rs1⟩ := re_rs_i rs
        obtain ⟨_, rfl, rs2⟩ := re_rs_f rs1
        refine re_icmp_ok hx hb hdg (re_jmp_ok ht) ?_
        rw [hO _ _ _ _ _ _ hb9 rfl rfl]
        exact kk _ _ _ hl rl rs2
      next => cases h
    next y x r t ht =>
      split at h
      next b hb9 =>
        cases h
        obtain ⟨_, rfl, rs1⟩ := re_rs_f rs
        obtain ⟨_, rfl, rs2⟩ := re_rs_i rs1
        refine re_icmp_ok hx hb hdg (re_jmp_ok ht) ?_
        rw [hO _ _ _ _ _ _ hb9 rfl rfl]
        exact kk _ _ _ hl rl rs2
      next => cases h
    next y x r t ht =>
      split at h
      next b hb9 =>
        cases h
        obtain ⟨_, rfl, rs1⟩ := re_rs_f rs
        obtain ⟨_, rfl, rs2⟩ := re_rs_f rs1
        refine re_icmp_ok hx hb hdg (re_jmp_ok ht) ?_
        rw [hO _ _ _ _ _ _ hb9 rfl rfl]
        exact kk _ _ _ hl rl rs2
      next => cases h
    next => cases h
  case ifCond cd off =>
    simp only [re_pure] at h
    have hdg : decode cc pc = .ok (.ifCond cd off, 3) := hlen.elim (fun q => absurd q (by simp [re_len])) (fun q => by rw [hdg0, q]; rfl)
    split at h
    next x r t ht =>
      cases h
      obtain ⟨_, rfl, rs1⟩ := re_rs_i rs
      exact re_if_ok hx hb hdg (re_jmp_ok ht) (kk _ _ _ hl rl rs1)
    next x r t ht =>
      split at h
      next b hb9 =>
        cases h
        obtain ⟨_, rfl, rs1⟩ := re_rs_f rs
        refine re_if_ok hx hb hdg (re_jmp_ok ht) ?_
        rw [hO _ _ _ _ _ _ hb9 rfl rfl]
        exact kk _ _ _ hl rl rs1
      next => cases h
    next => cases h
  case goto off =>
    simp only [re_pure] at h
    have hdg : decode cc pc = .ok (.goto off, 3) := hlen.elim (fun q => absurd q (by simp [re_len])) (fun q => by rw [hdg0, q]; rfl)
    split at h
    next t ht =>
      cases h
      exact lv_goto hx hb hdg (re_jmp_ok ht) (kk _ _ _ hl rl rs)
    next => cases h
  case ifnull off =>
    simp only [re_pure] at h
    have hdg : decode cc pc = .ok (.ifnull off, 3) := hlen.elim (fun q => absurd q (by simp [re_len])) (fun q => by rw [hdg0, q]; rfl)
    split at h
    next x r t ht =>
      cases h
      obtain ⟨a9, _, rfl, e2, rs1⟩ := re_rs_r rs
      exact lv_ifnull hx hb hdg (kk _ _ _ hl rl rs1)
    next r t ht =>
      cases h
      obtain ⟨_, rfl, rs1⟩ := re_rs_n rs
      exact lv_ifnullN hx hb hdg (re_jmp_ok ht) (kk _ _ _ hl rl rs1)
    next x r t ht =>
      cases h
      obtain ⟨_, rfl, rs1⟩ := re_rs_x rs
      exact lv_ifnull hx hb hdg (kk _ _ _ hl rl rs1)
    next => cases h
  case ifnonnull off =>
    simp only [re_pure] at h
    have hdg : decode cc pc = .ok (.ifnonnull off, 3) := hlen.elim (fun q => absurd q (by simp [re_len])) (fun q => by rw [hdg0, q]; rfl)
    split at h
    next x r t ht =>
      cases h
      obtain ⟨a9, _, rfl, e2, rs1⟩ := re_rs_r rs
      exact lv_ifnonnull hx hb hdg (re_jmp_ok ht) (kk _ _ _ hl rl rs1)
    next r t ht =>
      cases h
      obtain ⟨_, rfl, rs1⟩ := re_rs_n rs
      exact lv_ifnonnullN hx hb hdg (kk _ _ _ hl rl rs1)
    next x r t ht =>
      cases h
      obtain ⟨_, rfl, rs1⟩ := re_rs_x rs
      exact lv_ifnonnull hx hb hdg (re_jmp_ok ht) (kk _ _ _ hl rl rs1)
    next => cases h
  case tableswitch dflt lo hi offs =>
    simp only [re_pure] at h
    split at h
    next x r =>
      obtain ⟨_, rfl, rs1⟩ := re_rs_i rs
      split at h
      next hq =>
        split at h
        next t ht =>
          cases h
          exact lv_tableOut hx hb hdg0 hq (re_jmp_ok ht) (kk _ _ _ hl rl rs1)
        next => cases h
      next hq =>
        split at h
        next off ho =>
          split at h
          next t ht =>
            cases h
            exact lv_tableIn hx hb hdg0 (fun z => hq (Or.inl z)) (fun z => hq (Or.inr z)) ho (re_jmp_ok ht) (kk _ _ _ hl rl rs1)
          next => cases h
        next => cases h
    next => cases h
  all_goals (exact absurd h (by simp [re_pure]))
end REP
end
section
/-! The abstract heap and the machine's: kinds below 100 are objects of that class of the list of classes, kind 100 + j an array of elements E j. -/
abbrev re_C : Type := Nat × List Value
/-- a tree of depth n: 2 ^ n places -/
def re_T : Nat → Type
  | 0 => Option re_C
  | n + 1 => re_T n × re_T n
def re_te : (n : Nat) → re_T n
  | 0 => (none : Option re_C)
  | n + 1 => (re_te n, re_te n)
def re_tg : (n : Nat) → re_T n → Nat → Option re_C
  | 0, t, _ => t
  | n + 1, t, i => bif Nat.blt i (2 ^ n) then re_tg n t.1 i else re_tg n t.2 (i - 2 ^ n)
def re_ts : (n : Nat) → re_T n → Nat → re_C → re_T n
  | 0, _, _, c => (some c : Option re_C)
  | n + 1, t, i, c => bif Nat.blt i (2 ^ n) then (re_ts n t.1 i c, t.2) else (t.1, re_ts n t.2 (i - 2 ^ n) c)
theorem re_blt_t {a b : Nat} (h : a < b) : Nat.blt a b = true := Nat.ble_eq_true_of_le h
theorem re_blt_f {a b : Nat} (h : b ≤ a) : Nat.blt a b = false := by
  cases hz : Nat.blt a b with
  | false => rfl
  | true => exact absurd (Nat.le_of_ble_eq_true hz) (by omega)
theorem re_tg_self (c : re_C) : ∀ (n : Nat) (t : re_T n) (i : Nat), re_tg n (re_ts n t i c) i = some c
  | 0, _, _ => rfl
  | n + 1, t, i => by
    show (bif Nat.blt i (2 ^ n) then re_tg n (re_ts (n + 1) t i c).1 i else re_tg n (re_ts (n + 1) t i c).2 (i - 2 ^ n)) = some c
    rcases Nat.lt_or_ge i (2 ^ n) with h | h
    · have e : re_ts (n + 1) t i c = (re_ts n t.1 i c, t.2) := by show (bif Nat.blt i (2 ^ n) then _ else _) = _; rw [re_blt_t h]; rfl
      rw [re_blt_t h, e]
      exact re_tg_self c n t.1 i
    · have e : re_ts (n + 1) t i c = (t.1, re_ts n t.2 (i - 2 ^ n) c) := by show (bif Nat.blt i (2 ^ n) then _ else _) = _; rw [re_blt_f h]; rfl
      rw [re_blt_f h, e]
      exact re_tg_self c n t.2 (i - 2 ^ n)
theorem re_tg_ne (c : re_C) : ∀ (n : Nat) (t : re_T n) (i j : Nat), i < 2 ^ n → j < 2 ^ n → ¬ i = j → re_tg n (re_ts n t i c) j = re_tg n t j
  | 0, _, i, j, hi, hj, hne => absurd (show i = j by simp at hi hj; omega) hne
  | n + 1, t, i, j, hi, hj, hne => by
    have h2 : 2 ^ (n + 1) = 2 ^ n + 2 ^ n := by rw [Nat.pow_succ]; omega
    show (bif Nat.blt j (2 ^ n) then re_tg n (re_ts (n + 1) t i c).1 j else re_tg n (re_ts (n + 1) t i c).2 (j - 2 ^ n)) = (bif Nat.blt j (2 ^ n) then re_tg n t.1 j else re_tg n t.2 (j - 2 ^ n))
    rcases Nat.lt_or_ge i (2 ^ n) with h | h
    · have e : re_ts (n + 1) t i c = (re_ts n t.1 i c, t.2) := by show (bif Nat.blt i (2 ^ n) then _ else _) = _; rw [re_blt_t h]; rfl
      rw [e]
      rcases Nat.lt_or_ge j (2 ^ n) with g | g
      · rw [re_blt_t g]
        exact re_tg_ne c n t.1 i j h g hne
      · rw [re_blt_f g]
        rfl
    · have e : re_ts (n + 1) t i c = (t.1, re_ts n t.2 (i - 2 ^ n) c) := by show (bif Nat.blt i (2 ^ n) then _ else _) = _; rw [re_blt_f h]; rfl
      rw [e]
      rcases Nat.lt_or_ge j (2 ^ n) with g | g
      · rw [re_blt_t g]
        rfl
      · rw [re_blt_f g]
        exact re_tg_ne c n t.2 (i - 2 ^ n) (j - 2 ^ n) (by omega) (by omega) (by omega)
/-- a heap: how many cells; the first 1024 in a tree, the others told by a function -/
abbrev re_H : Type := Nat × re_T 10 × (Nat → Option re_C)
def re_h0 : re_H := (0, re_te 10, fun _ => none)
def re_hf9 (t : re_T 10 × (Nat → Option re_C)) (i : Nat) : Option re_C := bif Nat.blt i 1024 then re_tg 10 t.1 i else t.2 i
def re_hu9 (t : re_T 10 × (Nat → Option re_C)) (i : Nat) (c : re_C) : re_T 10 × (Nat → Option re_C) := bif Nat.blt i 1024 then (re_ts 10 t.1 i c, t.2) else (t.1, fun j => if j = i then some c else t.2 j)
def re_hg (h : re_H) (i : Nat) : Option re_C := bif Nat.blt i h.1 then re_hf9 h.2 i else none
def re_hw (h : re_H) (i : Nat) (c : re_C) : re_H := (h.1, re_hu9 h.2 i c)
def re_hq (h : re_H) (c : re_C) : re_H := (h.1 + 1, re_hu9 h.2 h.1 c)
theorem re_hfu_self (t : re_T 10 × (Nat → Option re_C)) (i : Nat) (c : re_C) : re_hf9 (re_hu9 t i c) i = some c := by
  unfold re_hf9 re_hu9
  rcases Nat.lt_or_ge i 1024 with h | h
  · rw [re_blt_t h]
    exact re_tg_self c 10 t.1 i
  · rw [re_blt_f h]
    show (if i = i then some c else t.2 i) = some c
    rw [if_pos rfl]
theorem re_hfu_ne (t : re_T 10 × (Nat → Option re_C)) (i j : Nat) (c : re_C) (hne : ¬ i = j) : re_hf9 (re_hu9 t i c) j = re_hf9 t j := by
  unfold re_hf9 re_hu9
  rcases Nat.lt_or_ge i 1024 with h | h
  · rw [re_blt_t h]
    rcases Nat.lt_or_ge j 1024 with g | g
    · rw [re_blt_t g]
      exact re_tg_ne c 10 t.1 i j h g hne
    · rw [re_blt_f g]
      rfl
  · rw [re_blt_f h]
    rcases Nat.lt_or_ge j 1024 with g | g
    · rw [re_blt_t g]
      rfl
    · rw [re_blt_f g]
      show (if j = i then some c else t.2 j) = t.2 j
      rw [if_neg (fun z => hne z.symm)]
theorem re_hg_lt {h : re_H} {i : Nat} {c : re_C} (hi : re_hg h i = some c) : i < h.1 ∧ re_hf9 h.2 i = some c := by
  unfold re_hg at hi
  cases hb : Nat.blt i h.1 with
  | true => rw [hb] at hi; exact ⟨Nat.le_of_ble_eq_true hb, hi⟩
  | false => rw [hb] at hi; cases hi
theorem re_hg_of {h : re_H} {i : Nat} (hi : i < h.1) : re_hg h i = re_hf9 h.2 i := by
  unfold re_hg
  rw [re_blt_t hi]
  rfl
def re_rA (V : re_V) (ad : List Nat) (t : FieldType) (vs : List Value) (x : (Nat → Int32) ⊕ (Nat → Int64) ⊕ (Nat → UInt32) ⊕ (Nat → UInt64) ⊕ (Nat → Option Nat)) : Prop := match t with
  | .int => ∃ f, x = .inl f ∧ ∀ (i : Nat) (v : Value), vs[i]? = some v → re_rv V ad v (.int (f i))
  | .boolean => ∃ f, x = .inl f ∧ ∀ (i : Nat) (v : Value), vs[i]? = some v → re_rv V ad v (.int (f i))
  | .long => ∃ f, x = .inr (.inl f) ∧ ∀ (i : Nat) (v : Value), vs[i]? = some v → re_rv V ad v (.long (f i))
  | .object _ => ∃ f, x = .inr (.inr (.inr (.inr f))) ∧ ∀ (i : Nat) (v : Value), vs[i]? = some v → re_rv V ad v (va_rf (f i))
  | _ => False
def re_rE (V : re_V) (E : Nat → FieldType) (cA : Nat → ClassId) (ad : List Nat) (c : re_C) (e : va_E) : Prop :=
  (c.1 < 100 ∧ ∃ fs, e = .inr (c.1, fs) ∧ re_rs V ad c.2 fs) ∨ ∃ (j : Nat) (x : _), c.1 = 100 + j ∧ e = .inl (cA j, c.2.length, x) ∧ re_rA V ad (E j) c.2 x
def re_rW (V : re_V) (E : Nat → FieldType) (cA : Nat → ClassId) (ad : List Nat) (h : re_H) (ws : va_W) : Prop :=
  ad.length = h.1 ∧ ws.length = h.1 ∧ (∀ (i : Nat) (c : re_C), re_hg h i = some c → ∃ a e, ad[i]? = some a ∧ ws[i]? = some (a, e) ∧ re_rE V E cA ad c e) ∧ True ∧ ∀ (i a : Nat), ad[i]? = some a → ∃ e, ws[i]? = some (a, e)
section REV
variable {V : re_V}
/-- more cells: what was stands -/
theorem re_rv_up {ad : List Nat} (q : List Nat) {v w : Value} (h : re_rv V ad v w) : re_rv V (ad ++ q) v w := by
  cases v <;> simp only [re_rv] at h ⊢
  case ref i =>
    obtain ⟨a, h1, h2⟩ := h
    refine ⟨a, ?_, h2⟩
    rw [List.getElem?_append_left (by exact (List.getElem?_eq_some_iff.mp h1).1)]
    exact h1
  all_goals exact h
theorem re_rs_up {ad : List Nat} (q : List Nat) : ∀ {vs ws : List Value}, re_rs V ad vs ws → re_rs V (ad ++ q) vs ws
  | [], [], _ => trivial
  | [], _ :: _, h => absurd h id
  | _ :: _, [], h => absurd h id
  | _ :: _, _ :: _, h => ⟨re_rv_up q h.1, re_rs_up q h.2⟩
theorem re_rl_up {ad : List Nat} (q : List Nat) {vs ws : List (Nat × Value)} (h : re_rl V ad vs ws) : re_rl V (ad ++ q) vs ws := fun i v hv => by
  obtain ⟨k, w, h1, h2⟩ := h i v hv
  exact ⟨k, w, h1, re_rv_up q h2⟩
theorem re_rA_up {ad : List Nat} (q : List Nat) {t : FieldType} {vs : List Value} {x} (h : re_rA V ad t vs x) : re_rA V (ad ++ q) t vs x := by
  cases t <;> simp only [re_rA] at h ⊢
  all_goals first | exact h | (obtain ⟨f, h1, h2⟩ := h; exact ⟨f, h1, fun i v hv => re_rv_up q (h2 i v hv)⟩)
theorem re_rE_up {E : Nat → FieldType} {cA : Nat → ClassId} {ad : List Nat} (q : List Nat) {c : re_C} {e : va_E} (h : re_rE V E cA ad c e) : re_rE V E cA (ad ++ q) c e := by
  rcases h with ⟨h1, fs, h2, h3⟩ | ⟨j, x, h1, h2, h3⟩
  · exact Or.inl ⟨h1, fs, h2, re_rs_up q h3⟩
  · exact Or.inr ⟨j, x, h1, h2, re_rA_up q h3⟩
theorem re_rs_len {ad : List Nat} : ∀ {vs ws : List Value}, re_rs V ad vs ws → ws.length = vs.length
  | [], [], _ => rfl
  | [], _ :: _, h => absurd h id
  | _ :: _, [], h => absurd h id
  | _ :: _, _ :: _, h => by rw [List.length_cons, List.length_cons, re_rs_len h.2]
theorem re_rs_get {ad : List Nat} : ∀ {vs ws : List Value} {k : Nat} {v : Value}, re_rs V ad vs ws → vs[k]? = some v → ∃ w, ws[k]? = some w ∧ re_rv V ad v w
  | [], _, k, v, _, h => by simp at h
  | _ :: _, [], _, _, h, _ => absurd h id
  | x :: vs, y :: ws, 0, v, h, hv => ⟨y, rfl, by cases (show some x = some v from hv); exact h.1⟩
  | x :: vs, y :: ws, k + 1, v, h, hv => re_rs_get (vs := vs) (ws := ws) (k := k) h.2 (by simpa using hv)
theorem re_rs_set {ad : List Nat} {v w : Value} (hv : re_rv V ad v w) : ∀ {vs ws : List Value} (k : Nat), re_rs V ad vs ws → re_rs V ad (vs.set k v) (ws.set k w)
  | [], [], _, _ => trivial
  | [], _ :: _, _, h => absurd h id
  | _ :: _, [], _, h => absurd h id
  | _ :: _, _ :: _, 0, h => ⟨hv, h.2⟩
  | _ :: _, _ :: _, k + 1, h => ⟨h.1, re_rs_set hv k h.2⟩
theorem re_rs_rep {ad : List Nat} {v w : Value} (hv : re_rv V ad v w) : ∀ n : Nat, re_rs V ad (List.replicate n v) (List.replicate n w)
  | 0 => trivial
  | n + 1 => ⟨hv, re_rs_rep hv n⟩
theorem re_rs_app {ad : List Nat} : ∀ {v1 w1 v2 w2 : List Value}, re_rs V ad v1 w1 → re_rs V ad v2 w2 → re_rs V ad (v1 ++ v2) (w1 ++ w2)
  | [], [], _, _, _, h => h
  | [], _ :: _, _, _, h, _ => absurd h id
  | _ :: _, [], _, _, h, _ => absurd h id
  | _ :: _, _ :: _, _, _, h, h2 => ⟨h.1, re_rs_app h.2 h2⟩
theorem re_rW_set {E : Nat → FieldType} {cA : Nat → ClassId} {ad : List Nat} {h : re_H} {ws : va_W} {i a : Nat} {c : re_C} {e : va_E} (hW : re_rW V E cA ad h ws) (ha : ad[i]? = some a) (he : re_rE V E cA ad c e) : re_rW V E cA ad (re_hw h i c) (ws.set i (a, e)) := by
  obtain ⟨w1, w2, w3, w4, w5⟩ := hW
  have hil : i < h.1 := by rw [← w1]; exact (List.getElem?_eq_some_iff.mp ha).1
  refine ⟨w1, by rw [List.length_set]; exact w2, fun k d hk => ?_, w4, fun k b hb => ?_⟩
  · obtain ⟨hkl, hkt⟩ := re_hg_lt hk
    have hkl : k < h.1 := hkl
    have hkt : re_hf9 (re_hu9 h.2 i c) k = some d := hkt
    rcases Nat.decEq i k with hne | rfl
    · rw [re_hfu_ne h.2 i k c hne] at hkt
      rw [List.getElem?_set_ne hne]
      exact w3 k d (by rw [re_hg_of hkl]; exact hkt)
    · rw [re_hfu_self] at hkt
      cases hkt
      exact ⟨a, e, ha, by rw [List.getElem?_set_self (by omega)], he⟩
  · rcases Nat.decEq i k with hne | rfl
    · rw [List.getElem?_set_ne hne]
      exact w5 k b hb
    · cases ha.symm.trans hb
      exact ⟨e, by rw [List.getElem?_set_self (by omega)]⟩
theorem re_rW_push {E : Nat → FieldType} {cA : Nat → ClassId} {ad : List Nat} {h : re_H} {ws : va_W} {q : Nat} {c : re_C} {e : va_E} (hW : re_rW V E cA ad h ws) (he : re_rE V E cA (ad ++ [q]) c e) : re_rW V E cA (ad ++ [q]) (re_hq h c) (ws ++ [(q, e)]) := by
  obtain ⟨w1, w2, w3, w4, w5⟩ := hW
  refine ⟨by simp [w1, re_hq], by simp [w2, re_hq], fun k d hk => ?_, trivial, fun k b hb => ?_⟩
  · obtain ⟨hkl, hkt⟩ := re_hg_lt hk
    have hkl : k < h.1 + 1 := hkl
    have hkt : re_hf9 (re_hu9 h.2 h.1 c) k = some d := hkt
    rcases Nat.decEq h.1 k with hne | rfl
    · rw [re_hfu_ne h.2 h.1 k c hne] at hkt
      obtain ⟨a, e', k1, k2, k3⟩ := w3 k d (by rw [re_hg_of (by omega)]; exact hkt)
      exact ⟨a, e', by rw [List.getElem?_append_left (by omega)]; exact k1, by rw [List.getElem?_append_left (by omega)]; exact k2, re_rE_up [q] k3⟩
    · rw [re_hfu_self] at hkt
      cases hkt
      exact ⟨q, e, by rw [List.getElem?_append_right (by omega), show h.1 - ad.length = 0 by omega]; rfl, by rw [List.getElem?_append_right (by omega), show h.1 - ws.length = 0 by omega]; rfl, he⟩
  · rcases Nat.lt_or_ge k ad.length with hlt | hge
    · rw [List.getElem?_append_left hlt] at hb
      rw [List.getElem?_append_left (by omega)]
      exact w5 k b hb
    · rw [List.getElem?_append_right hge] at hb
      have hk0 : k - ad.length = 0 := by
        have := (List.getElem?_eq_some_iff.mp hb).1
        simp at this
        omega
      rw [hk0] at hb
      cases hb
      exact ⟨e, by rw [List.getElem?_append_right (by omega), show k - ws.length = 0 by omega]; rfl⟩
theorem re_rE_obj {E : Nat → FieldType} {cA : Nat → ClassId} {ad : List Nat} {ci : Nat} {vs : List Value} {e : va_E} (h : re_rE V E cA ad (ci, vs) e) (hc : ci < 100) : ∃ fs, e = .inr (ci, fs) ∧ re_rs V ad vs fs := by
  rcases h with ⟨_, h2⟩ | ⟨j, x, h1, _⟩
  · exact h2
  · exact absurd h1 (by show ¬ ci = 100 + j; omega)
theorem re_rE_arr {E : Nat → FieldType} {cA : Nat → ClassId} {ad : List Nat} {j : Nat} {vs : List Value} {e : va_E} (h : re_rE V E cA ad (100 + j, vs) e) : ∃ x, e = .inl (cA j, vs.length, x) ∧ re_rA V ad (E j) vs x := by
  rcases h with ⟨h1, _⟩ | ⟨j', x, h1, h2, h3⟩
  · exact absurd h1 (by show ¬ 100 + j < 100; omega)
  · have : j' = j := by have h1 : 100 + j = 100 + j' := h1; omega
    subst this
    exact ⟨x, h2, h3⟩
theorem re_set_i {ad : List Nat} {vs : List Value} {f : Nat → Int32} (hf : ∀ (i : Nat) (v : Value), vs[i]? = some v → re_rv V ad v (.int (f i))) (n : Nat) {v0 : Value} {x : Int32} (h0 : re_rv V ad v0 (.int x)) : ∀ (i : Nat) (v : Value), (vs.set n v0)[i]? = some v → re_rv V ad v (.int (upd f n x i)) := by
  intro i v hv
  unfold upd
  rcases Nat.decEq n i with hne | rfl
  · rw [List.getElem?_set_ne hne] at hv
    rw [if_neg (fun z => hne z.symm)]
    exact hf i v hv
  · rw [if_pos rfl]
    have hlt : n < vs.length := by
      have := (List.getElem?_eq_some_iff.mp hv).1
      rwa [List.length_set] at this
    rw [List.getElem?_set_self hlt] at hv
    cases hv
    exact h0
theorem re_set_l {ad : List Nat} {vs : List Value} {f : Nat → Int64} (hf : ∀ (i : Nat) (v : Value), vs[i]? = some v → re_rv V ad v (.long (f i))) (n : Nat) {v0 : Value} {x : Int64} (h0 : re_rv V ad v0 (.long x)) : ∀ (i : Nat) (v : Value), (vs.set n v0)[i]? = some v → re_rv V ad v (.long (vp_updL f n x i)) := by
  intro i v hv
  unfold vp_updL
  rcases Nat.decEq n i with hne | rfl
  · rw [List.getElem?_set_ne hne] at hv
    rw [if_neg (fun z => hne z.symm)]
    exact hf i v hv
  · rw [if_pos rfl]
    have hlt : n < vs.length := by
      have := (List.getElem?_eq_some_iff.mp hv).1
      rwa [List.length_set] at this
    rw [List.getElem?_set_self hlt] at hv
    cases hv
    exact h0
theorem re_set_q {ad : List Nat} {vs : List Value} {f : Nat → Option Nat} (hf : ∀ (i : Nat) (v : Value), vs[i]? = some v → re_rv V ad v (va_rf (f i))) (n : Nat) {v0 : Value} {x : Option Nat} (h0 : re_rv V ad v0 (va_rf x)) : ∀ (i : Nat) (v : Value), (vs.set n v0)[i]? = some v → re_rv V ad v (va_rf (va_up f n x i)) := by
  intro i v hv
  unfold va_up
  rcases Nat.decEq n i with hne | rfl
  · rw [List.getElem?_set_ne hne] at hv
    rw [if_neg (fun z => hne z.symm)]
    exact hf i v hv
  · rw [if_pos rfl]
    have hlt : n < vs.length := by
      have := (List.getElem?_eq_some_iff.mp hv).1
      rwa [List.length_set] at this
    rw [List.getElem?_set_self hlt] at hv
    cases hv
    exact h0
end REV
end
section
/-! What an instruction does to the heap that makes nothing: fields and places of arrays. -/
def re_in (x : Int32) (n : Nat) : Bool := !decide (x < 0) && decide (x.toNatClampNeg < n)
theorem re_in_ok {x : Int32} {n : Nat} (h : re_in x n = true) : vp_in x n := by
  unfold re_in at h
  simp only [Bool.and_eq_true, Bool.not_eq_true', decide_eq_false_iff_not, decide_eq_true_eq] at h
  intro z
  rcases z with z | z
  · exact h.1 z
  · omega
/-- an abstract value fits a field -/
def re_fit (ty : FieldType) (v : Value) : Bool := match v with
  | .float _ => decide (ty = .int)
  | .double _ => decide (ty = .long)
  | .retAddr _ => match ty with
    | .object _ => true
    | .array _ => true
    | _ => false
  | v => decide (narrow ty v = v) && fits ty v
def re_hp (nE : Nat) (fl : Nat → Option (Nat × Nat × FieldType × Nat)) (ec : Nat → Nat → Bool) (isI : Bool) (pc : Nat) (st : List Value) (h : re_H) (ins : Instr) : Option (Nat × List Value × re_H) := match ins with
  | .getfield idx => match fl idx, st with
    | some (ci, k, _, _), .ref i :: r => match re_hg h i with
      | some (t, vs) => if t = ci then (match vs[k]? with
        | some v => some (pc + 3, v :: r, h)
        | none => none) else none
      | none => none
    | _, _ => none
  | .putfield idx => match fl idx, st with
    | some (ci, k, ty, fin), v :: .ref i :: r => match re_hg h i with
      | some (t, vs) => if t = ci ∧ k < vs.length ∧ re_fit ty v = true ∧ (fin = 0 ∨ (fin = 1 ∧ isI = true)) then some (pc + 3, r, re_hw h i (t, vs.set k v)) else none
      | none => none
    | _, _ => none
  | .arraylength => match st with
    | .ref i :: r => match re_hg h i with
      | some (t, vs) => if 100 ≤ t ∧ t < 100 + nE then some (pc + 1, .int (Int32.ofNat vs.length) :: r, h) else none
      | none => none
    | _ => none
  | .iaload => match st with
    | .int x :: .ref i :: r => match re_hg h i with
      | some (t, vs) => if (t = 100) ∧ re_in x vs.length = true then (match vs[x.toNatClampNeg]? with
        | some v => some (pc + 1, v :: r, h)
        | none => none) else none
      | none => none
    | _ => none
  | .laload => match st with
    | .int x :: .ref i :: r => match re_hg h i with
      | some (t, vs) => if (t = 101) ∧ re_in x vs.length = true then (match vs[x.toNatClampNeg]? with
        | some v => some (pc + 1, v :: r, h)
        | none => none) else none
      | none => none
    | _ => none
  | .baload => match st with
    | .int x :: .ref i :: r => match re_hg h i with
      | some (t, vs) => if (t = 102) ∧ re_in x vs.length = true then (match vs[x.toNatClampNeg]? with
        | some v => some (pc + 1, v :: r, h)
        | none => none) else none
      | none => none
    | _ => none
  | .aaload => match st with
    | .int x :: .ref i :: r => match re_hg h i with
      | some (t, vs) => if (103 ≤ t ∧ t < 100 + nE) ∧ re_in x vs.length = true then (match vs[x.toNatClampNeg]? with
        | some v => some (pc + 1, v :: r, h)
        | none => none) else none
      | none => none
    | _ => none
  | .iastore => match st with
    | .int y :: .int x :: .ref i :: r => match re_hg h i with
      | some (t, vs) => if (t = 100) ∧ re_in x vs.length = true then some (pc + 1, r, re_hw h i (t, vs.set x.toNatClampNeg (.int y))) else none
      | none => none
    | _ => none
  | .lastore => match st with
    | .long y :: .int x :: .ref i :: r => match re_hg h i with
      | some (t, vs) => if (t = 101) ∧ re_in x vs.length = true then some (pc + 1, r, re_hw h i (t, vs.set x.toNatClampNeg (.long y))) else none
      | none => none
    | .double y :: .int x :: .ref i :: r => match re_hg h i with
      | some (t, vs) => if (t = 101) ∧ re_in x vs.length = true then some (pc + 1, r, re_hw h i (t, vs.set x.toNatClampNeg (.double y))) else none
      | none => none
    | _ => none
  | .bastore => match st with
    | .int y :: .int x :: .ref i :: r => match re_hg h i with
      | some (t, vs) => if (t = 102) ∧ re_in x vs.length = true then some (pc + 1, r, re_hw h i (t, vs.set x.toNatClampNeg (.int (vp_nar .boolean y)))) else none
      | none => none
    | _ => none
  | .aastore => match st with
    | .null :: .int x :: .ref i :: r => match re_hg h i with
      | some (t, vs) => if (103 ≤ t ∧ t < 100 + nE) ∧ re_in x vs.length = true then some (pc + 1, r, re_hw h i (t, vs.set x.toNatClampNeg .null)) else none
      | none => none
    | .ref v :: .int x :: .ref i :: r => match re_hg h i, re_hg h v with
      | some (t, vs), some (tv, _) => if (103 ≤ t ∧ t < 100 + nE) ∧ re_in x vs.length = true ∧ ec (t - 100) tv = true then some (pc + 1, r, re_hw h i (t, vs.set x.toNatClampNeg (.ref v))) else none
      | _, _ => none
    | _ => none
  | _ => none
def re_flok (s : State) (args : Array Value) (own : String) (cl : List vw_C) (idx ci k : Nat) (ty : FieldType) (fin : Nat) : Prop := ∃ (r : vw_C) (ref : String), cl[ci]? = some r ∧ k < r.2.2 ∧ (Cond.fieldLink own idx ref (r.2.1 k).2.1 (r.2.1 k).2.2.1).before args s = true ∧
  (∀ x, s.fieldFound? (r.2.1 k).1 (r.2.1 k).2.1 (r.2.1 k).2.2.1 = some x → s.fieldFound? ref (r.2.1 k).2.1 (r.2.1 k).2.2.1 = some x) ∧ parseFieldDescriptor (r.2.1 k).2.2.1 = some ty ∧ (fin = 0 → (r.2.1 k).2.2.2 = false) ∧ (fin = 1 → (r.2.1 k).2.2.2 = true ∧ (r.2.1 k).1 = own)
def re_Cl (cl : List vw_C) (Ts : List Cond) : Prop := cl.length ≤ 100 ∧ ∀ (ci : Nat) (r : vw_C), cl[ci]? = some r → (∀ w ∈ u_ws r.1 r.2.1 r.2.2, w ∈ Ts) ∧
  (∃ ty : Nat → FieldType, ∀ k, k < r.2.2 → parseFieldDescriptor (r.2.1 k).2.2.1 = some (ty k)) ∧ ∀ a, a < r.2.2 → ∀ b, b < r.2.2 → a ≠ b → (r.2.1 a).2.1 ≠ (r.2.1 b).2.1
def re_ecok (s : State) (cl : List vw_C) (E : Nat → FieldType) (j ci : Nat) : Prop := ∃ r : vw_C, cl[ci]? = some r ∧ (E j = .object r.1 ∨ ∃ nm, E j = .object nm ∧ va_Nw (.castable r.1 nm) s)
theorem re_fits {V : re_V} {ad : List Nat} {ty : FieldType} {v w : Value} (h : re_rv V ad v w) (hf : re_fit ty v = true) : narrow ty w = w ∧ fits ty w = true := by
  cases v <;> simp only [re_rv] at h
  case ref i =>
    obtain ⟨a, -, rfl⟩ := h
    simp only [re_fit, Bool.and_eq_true, decide_eq_true_eq] at hf
    obtain ⟨-, hf⟩ := hf
    cases ty <;> first | exact ⟨rfl, rfl⟩ | (cases hf)
  case float n =>
    subst h
    cases of_decide_eq_true hf
    exact ⟨rfl, rfl⟩
  case double n =>
    subst h
    cases of_decide_eq_true hf
    exact ⟨rfl, rfl⟩
  case retAddr n =>
    subst h
    cases ty <;> first | exact ⟨rfl, rfl⟩ | (cases hf)
  all_goals (subst h; simp only [re_fit, Bool.and_eq_true, decide_eq_true_eq] at hf; exact hf)
theorem re_cl_lt {cl : List vw_C} {Ts : List Cond} (h : re_Cl cl Ts) {ci : Nat} {r : vw_C} (hc : cl[ci]? = some r) : ci < 100 := by
  have h1 := (List.getElem?_eq_some_iff.mp hc).1
  have h2 := h.1
  omega
section REH
variable {V : re_V} {p : Program} {l : Launch} {e : Env} {R : Room} {s : State} {m : MethodId} {args : Array Value} {below : List Frame} {meth : Method} {c : Code} {H : Heap} {locs : List Loc} {cells slots : Nat} {Q : State → Prop} {cc : ByteArray} {pc : Nat} {ls : Array Slot} {D : va_G} {cl : List vw_C} {tys : List (ClassId × FieldType)} {A : Nat → Prop} {H0 : Heap} {ws : va_W}
theorem re_hp_ok (hx : p.tables.exec = Jvm.exec) (hb : c.code = cc) {Ts : List Cond} (hts : ∀ w ∈ Ts, w.before args s = true) {own : String} (hown : s.vm.findClass own = some m.cls) (hK : va_K D cl tys s) (hP : va_P D cl ws H) (hD : va_D A ws) (hS : va_S A H0 H locs)
    (hcl : re_Cl cl Ts) {fl : Nat → Option (Nat × Nat × FieldType × Nat)} (hfl : ∀ idx ci k ty fin, fl idx = some (ci, k, ty, fin) → re_flok s args own cl idx ci k ty fin) {E : Nat → FieldType} {cA : Nat → ClassId} {nE : Nat} (hE : ∀ j, j < nE → tys[j]? = some (cA j, E j)) (hE3 : 3 ≤ nE)
    (h0 : E 0 = .int) (h1 : E 1 = .long) (h2 : E 2 = .boolean) (h3 : ∀ j, 3 ≤ j → j < nE → ∃ nm, E j = .object nm) {ec : Nat → Nat → Bool} (hec : ∀ j ci, ec j ci = true → re_ecok s cl E j ci) {isI : Bool} (hisI : isI = true → meth.name = "<init>")
    {ad : List Nat} {ins : Instr} {len : Nat} {st sc st' : List Value} {h h' : re_H} {pc' : Nat}
    (hdg0 : decode cc pc = .ok (ins, len)) (hlen : re_len ins = 0 ∨ len = re_len ins) (hh : re_hp nE fl ec isI pc st h ins = some (pc', st', h')) (rs : re_rs V ad st sc) (rw0 : re_rW V E cA ad h ws)
    (kk : ∀ (H1 : Heap) (locs1 : List Loc) (ws' : va_W) (sc' : List Value), va_P D cl ws' H1 → va_D A ws' → va_S A H0 H1 locs1 → re_rs V ad st' sc' → re_rW V E cA ad h' ws' → W p l e R s m args below meth c H1 locs1 cells slots Q (F0 m pc' ls sc')) : W p l e R s m args below meth c H locs cells slots Q (F0 m pc ls sc) := by
  cases ins
  case getfield idx =>
    simp only [re_hp] at hh
    have hdg : decode cc pc = .ok (.getfield idx, 3) := hlen.elim (fun q => absurd q (by simp [re_len])) (fun q => by rw [hdg0, q]; rfl)
    split at hh
    next ci k ty fin i r hf =>
      split at hh
      next t vs hi =>
        split at hh
        next ht =>
          split at hh
          next v hv =>
            cases hh
            subst ht
            obtain ⟨a9, sr, rfl, ha, rs1⟩ := re_rs_r rs
            obtain ⟨a, e9, k1, k2, k3⟩ := rw0.2.2.1 i _ hi
            cases ha.symm.trans k1
            obtain ⟨⟨C, T, N⟩, ref, hc, hk, hlink, hsame, -⟩ := hfl _ _ _ _ _ hf
            obtain ⟨fs, rfl, k4⟩ := re_rE_obj k3 (re_cl_lt hcl hc)
            obtain ⟨w, hw, k5⟩ := re_rs_get k4 hv
            exact va_get (D := D) hx hb hts (hcl.2 _ _ hc).1 hown hK hP i k2 hc k hk hlink hsame hw hdg (kk _ _ _ _ hP hD hS ⟨k5, rs1⟩ rw0)
          next => cases hh
        next => cases hh
      next => cases hh
    next => cases hh
  case putfield idx =>
    simp only [re_hp] at hh
    have hdg : decode cc pc = .ok (.putfield idx, 3) := hlen.elim (fun q => absurd q (by simp [re_len])) (fun q => by rw [hdg0, q]; rfl)
    split at hh
    next ci k ty fin v i r hf =>
      split at hh
      next t vs hi =>
        split at hh
        next ht =>
          cases hh
          obtain ⟨ht, hkl, hft, hfin⟩ := ht
          subst ht
          obtain ⟨w, sr, rfl, rv, rs1⟩ := re_rs_cons rs
          obtain ⟨a9, sr, rfl, ha, rs2⟩ := re_rs_r rs1
          obtain ⟨a, e9, k1, k2, k3⟩ := rw0.2.2.1 i _ hi
          cases ha.symm.trans k1
          obtain ⟨⟨C, T, N⟩, ref, hc, hk, hlink, hsame, hpd, hf2, hdecl⟩ := hfl _ _ _ _ _ hf
          have hc100 := re_cl_lt hcl hc
          obtain ⟨fs, rfl, k4⟩ := re_rE_obj k3 hc100
          obtain ⟨hin, ⟨ty0, hty0⟩, hnm⟩ := hcl.2 _ _ hc
          obtain ⟨hn2, hft2⟩ := re_fits rv hft
          have hl2 : k < fs.length := by rw [re_rs_len k4]; exact hkl
          have hW2 := re_rW_set rw0 ha (c := (t, vs.set k v)) (e := .inr (t, fs.set k w)) (Or.inl ⟨hc100, _, rfl, re_rs_set rv k k4⟩)
          rcases hfin with hfin | ⟨hfin, hii⟩
          · exact va_put (D := D) hx hb hts hin ty0 hty0 hnm hown hK hP hD hS i k2 hc k hk hlink hsame (hf2 hfin) hpd hn2 hft2 hl2 hdg (fun H1 locs1 hP1 hD1 hS1 => kk _ _ _ _ hP1 hD1 hS1 rs2 hW2)
          · exact va_putF (D := D) hx hb hts hin ty0 hty0 hnm hown hK hP hD hS i k2 hc k hk hlink hsame (hdecl hfin).1 (hisI hii) (hdecl hfin).2 hpd hn2 hft2 hl2 hdg (fun H1 locs1 hP1 hD1 hS1 => kk _ _ _ _ hP1 hD1 hS1 rs2 hW2)
        next => cases hh
      next => cases hh
    next => cases hh
  case arraylength  =>
    simp only [re_hp] at hh
    have hdg : decode cc pc = .ok (.arraylength, 1) := hlen.elim (fun q => absurd q (by simp [re_len])) (fun q => by rw [hdg0, q]; rfl)
    split at hh
    next i r =>
      split at hh
      next t vs hi =>
        split at hh
        next ht =>
          cases hh
          obtain ⟨a9, sr, rfl, ha, rs1⟩ := re_rs_r rs
          obtain ⟨a, e9, k1, k2, k3⟩ := rw0.2.2.1 i _ hi
          cases ha.symm.trans k1
          obtain ⟨j, rfl⟩ : ∃ j, t = 100 + j := ⟨t - 100, by omega⟩
          obtain ⟨x, rfl, k4⟩ := re_rE_arr k3
          exact va_alen hx hb hK hP i j k2 (hE j (by omega)) rfl hdg (kk _ _ _ _ hP hD hS ⟨rfl, rs1⟩ rw0)
        next => cases hh
      next => cases hh
    next => cases hh
  case iaload  =>
    simp only [re_hp] at hh
    have hdg : decode cc pc = .ok (.iaload, 1) := hlen.elim (fun q => absurd q (by simp [re_len])) (fun q => by rw [hdg0, q]; rfl)
    split at hh
    next x i r =>
      split at hh
      next t vs hi =>
        split at hh
        next ht =>
          split at hh
          next v hv =>
            cases hh
            obtain ⟨sr, rfl, rs1⟩ := re_rs_i rs
            obtain ⟨a9, sr, rfl, ha, rs2⟩ := re_rs_r rs1
            obtain ⟨a, e9, k1, k2, k3⟩ := rw0.2.2.1 i _ hi
            cases ha.symm.trans k1
            obtain ⟨ht, hin⟩ := ht
            subst ht
            obtain ⟨x9, rfl, k4⟩ := re_rE_arr (j := 0) k3
            rw [h0] at k4
            obtain ⟨f, rfl, k5⟩ := k4
            exact va_iald hx hb hK hP i 0 k2 (by rw [← h0]; exact hE 0 (by omega)) (re_in_ok hin) hdg (kk _ _ _ _ hP hD hS ⟨k5 _ _ hv, rs2⟩ rw0)
          next => cases hh
        next => cases hh
      next => cases hh
    next => cases hh
  case laload  =>
    simp only [re_hp] at hh
    have hdg : decode cc pc = .ok (.laload, 1) := hlen.elim (fun q => absurd q (by simp [re_len])) (fun q => by rw [hdg0, q]; rfl)
    split at hh
    next x i r =>
      split at hh
      next t vs hi =>
        split at hh
        next ht =>
          split at hh
          next v hv =>
            cases hh
            obtain ⟨sr, rfl, rs1⟩ := re_rs_i rs
            obtain ⟨a9, sr, rfl, ha, rs2⟩ := re_rs_r rs1
            obtain ⟨a, e9, k1, k2, k3⟩ := rw0.2.2.1 i _ hi
            cases ha.symm.trans k1
            obtain ⟨ht, hin⟩ := ht
            subst ht
            obtain ⟨x9, rfl, k4⟩ := re_rE_arr (j := 1) k3
            rw [h1] at k4
            obtain ⟨f, rfl, k5⟩ := k4
            exact va_lald hx hb hK hP i 1 k2 (by rw [← h1]; exact hE 1 (by omega)) (re_in_ok hin) hdg (kk _ _ _ _ hP hD hS ⟨k5 _ _ hv, rs2⟩ rw0)
          next => cases hh
        next => cases hh
      next => cases hh
    next => cases hh
  case baload  =>
    simp only [re_hp] at hh
    have hdg : decode cc pc = .ok (.baload, 1) := hlen.elim (fun q => absurd q (by simp [re_len])) (fun q => by rw [hdg0, q]; rfl)
    split at hh
    next x i r =>
      split at hh
      next t vs hi =>
        split at hh
        next ht =>
          split at hh
          next v hv =>
            cases hh
            obtain ⟨sr, rfl, rs1⟩ := re_rs_i rs
            obtain ⟨a9, sr, rfl, ha, rs2⟩ := re_rs_r rs1
            obtain ⟨a, e9, k1, k2, k3⟩ := rw0.2.2.1 i _ hi
            cases ha.symm.trans k1
            obtain ⟨ht, hin⟩ := ht
            subst ht
            obtain ⟨x9, rfl, k4⟩ := re_rE_arr (j := 2) k3
            rw [h2] at k4
            obtain ⟨f, rfl, k5⟩ := k4
            exact va_zald hx hb hK hP i 2 k2 (by rw [← h2]; exact hE 2 (by omega)) (re_in_ok hin) hdg (kk _ _ _ _ hP hD hS ⟨k5 _ _ hv, rs2⟩ rw0)
          next => cases hh
        next => cases hh
      next => cases hh
    next => cases hh
  case aaload  =>
    simp only [re_hp] at hh
    have hdg : decode cc pc = .ok (.aaload, 1) := hlen.elim (fun q => absurd q (by simp [re_len])) (fun q => by rw [hdg0, q]; rfl)
    split at hh
    next x i r =>
      split at hh
      next t vs hi =>
        split at hh
        next ht =>
          split at hh
          next v hv =>
            cases hh
            obtain ⟨sr, rfl, rs1⟩ := re_rs_i rs
            obtain ⟨a9, sr, rfl, ha, rs2⟩ := re_rs_r rs1
            obtain ⟨a, e9, k1, k2, k3⟩ := rw0.2.2.1 i _ hi
            cases ha.symm.trans k1
            obtain ⟨⟨ht1, ht2⟩, hin⟩ := ht
            obtain ⟨j, rfl⟩ : ∃ j, t = 100 + j := ⟨t - 100, by omega⟩
            obtain ⟨x9, rfl, k4⟩ := re_rE_arr k3
            obtain ⟨nm, hj⟩ := h3 j (by omega) (by omega)
            rw [hj] at k4
            obtain ⟨f, rfl, k5⟩ := k4
            exact va_aldq hx hb hK hP i j k2 (by rw [← hj]; exact hE j (by omega)) (re_in_ok hin) hdg (kk _ _ _ _ hP hD hS ⟨k5 _ _ hv, rs2⟩ rw0)
          next => cases hh
        next => cases hh
      next => cases hh
    next => cases hh
  case iastore  =>
    simp only [re_hp] at hh
    have hdg : decode cc pc = .ok (.iastore, 1) := hlen.elim (fun q => absurd q (by simp [re_len])) (fun q => by rw [hdg0, q]; rfl)
    split at hh
    next y x i r =>
      split at hh
      next t vs hi =>
        split at hh
        next ht =>
          cases hh
          obtain ⟨sr, rfl, rs1⟩ := re_rs_i rs
          obtain ⟨sr, rfl, rs2⟩ := re_rs_i rs1
          obtain ⟨a9, sr, rfl, ha, rs3⟩ := re_rs_r rs2
          obtain ⟨a, e9, k1, k2, k3⟩ := rw0.2.2.1 i _ hi
          cases ha.symm.trans k1
          obtain ⟨ht, hin⟩ := ht
          subst ht
          obtain ⟨x9, rfl, k4⟩ := re_rE_arr (j := 0) k3
          rw [h0] at k4
          obtain ⟨f, rfl, k5⟩ := k4
          exact va_iast hx hb hK hP hD hS i 0 k2 (by rw [← h0]; exact hE 0 (by omega)) (re_in_ok hin) hdg (fun H1 locs1 hP1 hD1 hS1 => kk _ _ _ _ hP1 hD1 hS1 rs3 (re_rW_set rw0 ha (Or.inr ⟨0, .inl (upd f x.toNatClampNeg y), rfl, by rw [List.length_set], by rw [h0]; exact ⟨_, rfl, re_set_i k5 _ rfl⟩⟩)))
        next => cases hh
      next => cases hh
    next => cases hh
  case lastore  =>
    simp only [re_hp] at hh
    have hdg : decode cc pc = .ok (.lastore, 1) := hlen.elim (fun q => absurd q (by simp [re_len])) (fun q => by rw [hdg0, q]; rfl)
    split at hh
    next y x i r =>
      split at hh
      next t vs hi =>
        split at hh
        next ht =>
          cases hh
          obtain ⟨sr, rfl, rs1⟩ := re_rs_l rs
          obtain ⟨sr, rfl, rs2⟩ := re_rs_i rs1
          obtain ⟨a9, sr, rfl, ha, rs3⟩ := re_rs_r rs2
          obtain ⟨a, e9, k1, k2, k3⟩ := rw0.2.2.1 i _ hi
          cases ha.symm.trans k1
          obtain ⟨ht, hin⟩ := ht
          subst ht
          obtain ⟨x9, rfl, k4⟩ := re_rE_arr (j := 1) k3
          rw [h1] at k4
          obtain ⟨f, rfl, k5⟩ := k4
          exact va_last hx hb hK hP hD hS i 1 k2 (by rw [← h1]; exact hE 1 (by omega)) (re_in_ok hin) hdg (fun H1 locs1 hP1 hD1 hS1 => kk _ _ _ _ hP1 hD1 hS1 rs3 (re_rW_set rw0 ha (Or.inr ⟨1, .inr (.inl (vp_updL f x.toNatClampNeg y)), rfl, by rw [List.length_set], by rw [h1]; exact ⟨_, rfl, re_set_l k5 _ rfl⟩⟩)))
        next => cases hh
      next => cases hh
    next y x i r =>
      split at hh
      next t vs hi =>
        split at hh
        next ht =>
          cases hh
          obtain ⟨sr, rfl, rs1⟩ := re_rs_d rs
          obtain ⟨sr, rfl, rs2⟩ := re_rs_i rs1
          obtain ⟨a9, sr, rfl, ha, rs3⟩ := re_rs_r rs2
          obtain ⟨a, e9, k1, k2, k3⟩ := rw0.2.2.1 i _ hi
          cases ha.symm.trans k1
          obtain ⟨ht, hin⟩ := ht
          subst ht
          obtain ⟨x9, rfl, k4⟩ := re_rE_arr (j := 1) k3
          rw [h1] at k4
          obtain ⟨f, rfl, k5⟩ := k4
          exact va_last hx hb hK hP hD hS i 1 k2 (by rw [← h1]; exact hE 1 (by omega)) (re_in_ok hin) hdg (fun H1 locs1 hP1 hD1 hS1 => kk _ _ _ _ hP1 hD1 hS1 rs3 (re_rW_set rw0 ha (Or.inr ⟨1, .inr (.inl (vp_updL f x.toNatClampNeg (V.2.2.1 y.toNat))), rfl, by rw [List.length_set], by rw [h1]; exact ⟨_, rfl, re_set_l k5 _ rfl⟩⟩)))
        next => cases hh
      next => cases hh
    next => cases hh
  case bastore  =>
    simp only [re_hp] at hh
    have hdg : decode cc pc = .ok (.bastore, 1) := hlen.elim (fun q => absurd q (by simp [re_len])) (fun q => by rw [hdg0, q]; rfl)
    split at hh
    next y x i r =>
      split at hh
      next t vs hi =>
        split at hh
        next ht =>
          cases hh
          obtain ⟨sr, rfl, rs1⟩ := re_rs_i rs
          obtain ⟨sr, rfl, rs2⟩ := re_rs_i rs1
          obtain ⟨a9, sr, rfl, ha, rs3⟩ := re_rs_r rs2
          obtain ⟨a, e9, k1, k2, k3⟩ := rw0.2.2.1 i _ hi
          cases ha.symm.trans k1
          obtain ⟨ht, hin⟩ := ht
          subst ht
          obtain ⟨x9, rfl, k4⟩ := re_rE_arr (j := 2) k3
          rw [h2] at k4
          obtain ⟨f, rfl, k5⟩ := k4
          exact va_zast hx hb hK hP hD hS i 2 k2 (by rw [← h2]; exact hE 2 (by omega)) (re_in_ok hin) hdg (fun H1 locs1 hP1 hD1 hS1 => kk _ _ _ _ hP1 hD1 hS1 rs3 (re_rW_set rw0 ha (Or.inr ⟨2, .inl (upd f x.toNatClampNeg (vp_nar .boolean y)), rfl, by rw [List.length_set], by rw [h2]; exact ⟨_, rfl, re_set_i k5 _ rfl⟩⟩)))
        next => cases hh
      next => cases hh
    next => cases hh
  case aastore  =>
    simp only [re_hp] at hh
    have hdg : decode cc pc = .ok (.aastore, 1) := hlen.elim (fun q => absurd q (by simp [re_len])) (fun q => by rw [hdg0, q]; rfl)
    split at hh
    next x i r =>
      split at hh
      next t vs hi =>
        split at hh
        next ht =>
          cases hh
          obtain ⟨sr, rfl, rs1⟩ := re_rs_n rs
          obtain ⟨sr, rfl, rs2⟩ := re_rs_i rs1
          obtain ⟨a9, sr, rfl, ha, rs3⟩ := re_rs_r rs2
          obtain ⟨a, e9, k1, k2, k3⟩ := rw0.2.2.1 i _ hi
          cases ha.symm.trans k1
          obtain ⟨⟨ht1, ht2⟩, hin⟩ := ht
          obtain ⟨j, rfl⟩ : ∃ j, t = 100 + j := ⟨t - 100, by omega⟩
          obtain ⟨x9, rfl, k4⟩ := re_rE_arr k3
          obtain ⟨nm, hj⟩ := h3 j (by omega) (by omega)
          rw [hj] at k4
          obtain ⟨f, rfl, k5⟩ := k4
          exact va_astqN hx hb hK hP hD hS i j k2 (by rw [← hj]; exact hE j (by omega)) (re_in_ok hin) hdg (fun H1 locs1 hP1 hD1 hS1 => kk _ _ _ _ hP1 hD1 hS1 rs3 (re_rW_set rw0 ha (Or.inr ⟨j, .inr (.inr (.inr (.inr (va_up f x.toNatClampNeg none)))), rfl, by rw [List.length_set], by rw [hj]; exact ⟨_, rfl, re_set_q k5 _ (v0 := .null) (x := none) rfl⟩⟩)))
        next => cases hh
      next => cases hh
    next v x i r =>
      split at hh
      next t vs tv vs2 hi hv =>
        split at hh
        next ht =>
          cases hh
          obtain ⟨av, sr, rfl, hav, rs1⟩ := re_rs_r rs
          obtain ⟨sr, rfl, rs2⟩ := re_rs_i rs1
          obtain ⟨a9, sr, rfl, ha, rs3⟩ := re_rs_r rs2
          obtain ⟨a, e9, k1, k2, k3⟩ := rw0.2.2.1 i _ hi
          cases ha.symm.trans k1
          obtain ⟨⟨ht1, ht2⟩, hin, hecc⟩ := ht
          obtain ⟨j, rfl⟩ : ∃ j, t = 100 + j := ⟨t - 100, by omega⟩
          obtain ⟨x9, rfl, k4⟩ := re_rE_arr k3
          obtain ⟨nm, hj⟩ := h3 j (by omega) (by omega)
          rw [hj] at k4
          obtain ⟨f, rfl, k5⟩ := k4
          rw [show 100 + j - 100 = j by omega] at hecc
          obtain ⟨q1, q2, q3⟩ := hec _ _ hecc
          obtain ⟨a2, e2, m1, m2, m3⟩ := rw0.2.2.1 v _ hv
          cases hav.symm.trans m1
          obtain ⟨fs2, rfl, m4⟩ := re_rE_obj m3 (re_cl_lt hcl q2)
          have hW2 := re_rW_set rw0 ha (c := (100 + j, vs.set x.toNatClampNeg (.ref v))) (e := .inl (cA j, vs.length, .inr (.inr (.inr (.inr (va_up f x.toNatClampNeg (some av))))))) (Or.inr ⟨j, _, rfl, by rw [List.length_set], by rw [hj]; exact ⟨_, rfl, re_set_q k5 _ (v0 := .ref v) (x := some av) ⟨av, hav, rfl⟩⟩⟩)
          rcases q3 with q3 | ⟨nm2, q3, q4⟩
          · exact va_astq hx hb hK hP hD hS i j v tv k2 (by rw [← q3]; exact hE j (by omega)) m2 q2 (re_in_ok hin) hdg (fun H1 locs1 hP1 hD1 hS1 => kk _ _ _ _ hP1 hD1 hS1 rs3 hW2)
          · exact va_astqO hx hb hK hP hD hS i j v tv k2 (by rw [← q3]; exact hE j (by omega)) q4 m2 q2 (re_in_ok hin) hdg (fun H1 locs1 hP1 hD1 hS1 => kk _ _ _ _ hP1 hD1 hS1 rs3 hW2)
        next => cases hh
      next => cases hh
    next => cases hh
  all_goals (exact absurd hh (by simp [re_hp]))
end REH
end
section
/-! Comparisons of references; answers for arithmetic on what nobody looks at; the script. -/
def re_rq (V : re_V) (ad : List Nat) (v : Value) (r : Option Nat) : Prop := re_rv V ad v (va_rf r)
/-- two abstract references: the same one? -/
def re_seq (u v : Value) : Option Bool := match u, v with
  | .null, .null => some true
  | .ref i, .ref j => some (Nat.beq i j)
  | .null, .ref _ => some false
  | .ref _, .null => some false
  | .null, .retAddr _ => some false
  | .retAddr _, .null => some false
  | .retAddr m, .retAddr n => bif Nat.beq m n then some true else none
  | _, _ => none
def re_acm (pc : Nat) (st : List Value) (ins : Instr) : Option (Nat × List Value) := match ins with
  | .if_acmp cd off => match st, re_jmp pc off with
    | v :: u :: r, some t => match re_seq u v with
      | some b => some (bif (match cd with | .eq => b | .ne => !b) then t else pc + 3, r)
      | none => none
    | _, _ => none
  | _ => none
/-- what the machine's arithmetic is, on what is known -/
def re_b2 (ins : Instr) (u v : Value) : Option Value := match ins with
  | .iand => match u, v with
    | .int x, .int y => some (.int (x &&& y))
    | _, _ => none
  | .ishr => match u, v with
    | .int x, .int y => some (.int (x >>> (y &&& 31)))
    | _, _ => none
  | .land => match u, v with
    | .long x, .long y => some (.long (x &&& y))
    | _, _ => none
  | .lor => match u, v with
    | .long x, .long y => some (.long (x ||| y))
    | _, _ => none
  | .lshl => match u, v with
    | .long x, .int y => some (.long (x <<< (y.toInt64 &&& 63)))
    | _, _ => none
  | .i2l => match u with
    | .int x => some (.long x.toInt64)
    | _ => none
  | _ => none
abbrev re_A : Type := Instr → Value → Value → Option Value
def re_Aok (V : re_V) (OA : re_A) : Prop := ∀ (ins : Instr) (u v r : Value) (ad : List Nat) (cu cv : Value), OA ins u v = some r → re_rv V ad u cu → re_rv V ad v cv → ∃ cr, re_b2 ins cu cv = some cr ∧ re_rv V ad r cr
def re_ora (OA : re_A) (pc : Nat) (st : List Value) (ins : Instr) : Option (Nat × List Value) := match ins with
  | .i2l => match st with
    | u :: r => match OA .i2l u .null with
      | some w => some (pc + 1, w :: r)
      | none => none
    | _ => none
  | .iand => match st with
    | v :: u :: r => match OA .iand u v with
      | some w => some (pc + 1, w :: r)
      | none => none
    | _ => none
  | .ishr => match st with
    | v :: u :: r => match OA .ishr u v with
      | some w => some (pc + 1, w :: r)
      | none => none
    | _ => none
  | .land => match st with
    | v :: u :: r => match OA .land u v with
      | some w => some (pc + 1, w :: r)
      | none => none
    | _ => none
  | .lor => match st with
    | v :: u :: r => match OA .lor u v with
      | some w => some (pc + 1, w :: r)
      | none => none
    | _ => none
  | .lshl => match st with
    | v :: u :: r => match OA .lshl u v with
      | some w => some (pc + 1, w :: r)
      | none => none
    | _ => none
  | _ => none
/-- the script is the outside reference 2 -/
def re_scr (SC : List Value) (pc : Nat) (st : List Value) (ins : Instr) : Option (Nat × List Value) := match ins with
  | .arraylength => match st with
    | .retAddr 2 :: r => some (pc + 1, .int (Int32.ofNat SC.length) :: r)
    | _ => none
  | .iaload => match st with
    | .int x :: .retAddr 2 :: r => if re_in x SC.length = true then (match SC[x.toNatClampNeg]? with
      | some v => some (pc + 1, v :: r)
      | none => none) else none
    | _ => none
  | _ => none
def re_Sok (V : re_V) (SC : List Value) : Prop := SC.length = V.2.2.2.1 ∧ ∀ (ad : List Nat) (j : Nat) (v : Value), SC[j]? = some v → re_rv V ad v (.int (V.2.2.2.2 j))
section REY
variable {V : re_V} {p : Program} {l : Launch} {e : Env} {R : Room} {s : State} {m : MethodId} {args : Array Value} {below : List Frame} {meth : Method} {c : Code} {H : Heap} {locs : List Loc} {cells slots : Nat} {Q : State → Prop} {cc : ByteArray} {pc : Nat} {ls : Array Slot}
theorem re_scr_ok (hx : p.tables.exec = Jvm.exec) (hb : c.code = cc) {SC : List Value} (hSC : re_Sok V SC) {A : Nat → Prop} {H0 : Heap} (hX : va_X (V.1 2) V.2.2.2.1 V.2.2.2.2 s H0) (hbl : V.1 2 < H0.size) (hbA : ¬ A (V.1 2)) (hS : va_S A H0 H locs) {ins : Instr} {len : Nat} {st sc : List Value} {ad : List Nat} {q : Nat × List Value}
    (hdg0 : decode cc pc = .ok (ins, len)) (hlen : re_len ins = 0 ∨ len = re_len ins) (hq : re_scr SC pc st ins = some q) (rs : re_rs V ad st sc)
    (kk : ∀ sc' : List Value, re_rs V ad q.2 sc' → W p l e R s m args below meth c H locs cells slots Q (F0 m q.1 ls sc')) : W p l e R s m args below meth c H locs cells slots Q (F0 m pc ls sc) := by
  cases ins
  case arraylength =>
    simp only [re_scr] at hq
    have hdg : decode cc pc = .ok (.arraylength, 1) := hlen.elim (fun q => absurd q (by simp [re_len])) (fun q => by rw [hdg0, q]; rfl)
    split at hq
    next r =>
      cases hq
      obtain ⟨sr, rfl, rs1⟩ := re_rs_x rs
      refine va_slen hx hb hX hbl hbA hS hdg (kk _ ⟨?_, rs1⟩)
      show Value.int _ = Value.int _
      rw [hSC.1]
    next => cases hq
  case iaload =>
    simp only [re_scr] at hq
    have hdg : decode cc pc = .ok (.iaload, 1) := hlen.elim (fun q => absurd q (by simp [re_len])) (fun q => by rw [hdg0, q]; rfl)
    split at hq
    next x r =>
      split at hq
      next hin =>
        split at hq
        next v hv =>
          cases hq
          obtain ⟨sr, rfl, rs1⟩ := re_rs_i rs
          obtain ⟨sr, rfl, rs2⟩ := re_rs_x rs1
          exact va_sld hx hb hX hbl hbA hS (by rw [← hSC.1]; exact re_in_ok hin) hdg (kk _ ⟨hSC.2 _ _ _ hv, rs2⟩)
        next => cases hq
      next => cases hq
    next => cases hq
  all_goals (exact absurd hq (by simp [re_scr]))
theorem re_ora_ok (hx : p.tables.exec = Jvm.exec) (hb : c.code = cc) {OA : re_A} (hA : re_Aok V OA) {ins : Instr} {len : Nat} {st sc : List Value} {ad : List Nat} {q : Nat × List Value}
    (hdg0 : decode cc pc = .ok (ins, len)) (hlen : re_len ins = 0 ∨ len = re_len ins) (hq : re_ora OA pc st ins = some q) (rs : re_rs V ad st sc)
    (kk : ∀ sc' : List Value, re_rs V ad q.2 sc' → W p l e R s m args below meth c H locs cells slots Q (F0 m q.1 ls sc')) : W p l e R s m args below meth c H locs cells slots Q (F0 m pc ls sc) := by
  cases ins
  case i2l =>
    simp only [re_ora] at hq
    have hdg : decode cc pc = .ok (.i2l, 1) := hlen.elim (fun q => absurd q (by simp [re_len])) (fun q => by rw [hdg0, q]; rfl)
    split at hq
    next u r =>
      split at hq
      next w hw =>
        cases hq
        obtain ⟨cu, sr, rfl, h1, rs1⟩ := re_rs_cons rs
        obtain ⟨cr, e1, e2⟩ := hA _ _ _ _ ad cu .null hw h1 rfl
        simp only [re_b2] at e1
        split at e1
        next x => cases e1; exact lv_i2l hx hb hdg rfl (kk _ ⟨e2, rs1⟩)
        next => cases e1
      next => cases hq
    next => cases hq
  case iand =>
    simp only [re_ora] at hq
    have hdg : decode cc pc = .ok (.iand, 1) := hlen.elim (fun q => absurd q (by simp [re_len])) (fun q => by rw [hdg0, q]; rfl)
    split at hq
    next v u r =>
      split at hq
      next w hw =>
        cases hq
        obtain ⟨cv, s1, rfl, h1, rs1⟩ := re_rs_cons rs
        obtain ⟨cu, s2, rfl, h2, rs2⟩ := re_rs_cons rs1
        obtain ⟨cr, e1, e2⟩ := hA _ _ _ _ ad cu cv hw h2 h1
        simp only [re_b2] at e1
        split at e1
        next x y => cases e1; exact lv_iand hx hb hdg (kk _ ⟨e2, rs2⟩)
        next => cases e1
      next => cases hq
    next => cases hq
  case ishr =>
    simp only [re_ora] at hq
    have hdg : decode cc pc = .ok (.ishr, 1) := hlen.elim (fun q => absurd q (by simp [re_len])) (fun q => by rw [hdg0, q]; rfl)
    split at hq
    next v u r =>
      split at hq
      next w hw =>
        cases hq
        obtain ⟨cv, s1, rfl, h1, rs1⟩ := re_rs_cons rs
        obtain ⟨cu, s2, rfl, h2, rs2⟩ := re_rs_cons rs1
        obtain ⟨cr, e1, e2⟩ := hA _ _ _ _ ad cu cv hw h2 h1
        simp only [re_b2] at e1
        split at e1
        next x y => cases e1; exact lv_ishr hx hb hdg (kk _ ⟨e2, rs2⟩)
        next => cases e1
      next => cases hq
    next => cases hq
  case land =>
    simp only [re_ora] at hq
    have hdg : decode cc pc = .ok (.land, 1) := hlen.elim (fun q => absurd q (by simp [re_len])) (fun q => by rw [hdg0, q]; rfl)
    split at hq
    next v u r =>
      split at hq
      next w hw =>
        cases hq
        obtain ⟨cv, s1, rfl, h1, rs1⟩ := re_rs_cons rs
        obtain ⟨cu, s2, rfl, h2, rs2⟩ := re_rs_cons rs1
        obtain ⟨cr, e1, e2⟩ := hA _ _ _ _ ad cu cv hw h2 h1
        simp only [re_b2] at e1
        split at e1
        next x y => cases e1; exact lv_land hx hb hdg (kk _ ⟨e2, rs2⟩)
        next => cases e1
      next => cases hq
    next => cases hq
  case lor =>
    simp only [re_ora] at hq
    have hdg : decode cc pc = .ok (.lor, 1) := hlen.elim (fun q => absurd q (by simp [re_len])) (fun q => by rw [hdg0, q]; rfl)
    split at hq
    next v u r =>
      split at hq
      next w hw =>
        cases hq
        obtain ⟨cv, s1, rfl, h1, rs1⟩ := re_rs_cons rs
        obtain ⟨cu, s2, rfl, h2, rs2⟩ := re_rs_cons rs1
        obtain ⟨cr, e1, e2⟩ := hA _ _ _ _ ad cu cv hw h2 h1
        simp only [re_b2] at e1
        split at e1
        next x y => cases e1; exact lv_lor hx hb hdg (kk _ ⟨e2, rs2⟩)
        next => cases e1
      next => cases hq
    next => cases hq
  case lshl =>
    simp only [re_ora] at hq
    have hdg : decode cc pc = .ok (.lshl, 1) := hlen.elim (fun q => absurd q (by simp [re_len])) (fun q => by rw [hdg0, q]; rfl)
    split at hq
    next v u r =>
      split at hq
      next w hw =>
        cases hq
        obtain ⟨cv, s1, rfl, h1, rs1⟩ := re_rs_cons rs
        obtain ⟨cu, s2, rfl, h2, rs2⟩ := re_rs_cons rs1
        obtain ⟨cr, e1, e2⟩ := hA _ _ _ _ ad cu cv hw h2 h1
        simp only [re_b2] at e1
        split at e1
        next x y => cases e1; exact lv_lshl hx hb hdg rfl (kk _ ⟨e2, rs2⟩)
        next => cases e1
      next => cases hq
    next => cases hq
  all_goals (exact absurd hq (by simp [re_ora]))
theorem re_acm_ok (hx : p.tables.exec = Jvm.exec) (hb : c.code = cc) {ins : Instr} {len : Nat} {st sc : List Value} {ad : List Nat} {q : Nat × List Value} (hnd : ∀ i j a : Nat, ad[i]? = some a → ad[j]? = some a → i = j)
    (hdg0 : decode cc pc = .ok (ins, len)) (hlen : re_len ins = 0 ∨ len = re_len ins) (hq : re_acm pc st ins = some q) (rs : re_rs V ad st sc)
    (kk : ∀ sc' : List Value, re_rs V ad q.2 sc' → W p l e R s m args below meth c H locs cells slots Q (F0 m q.1 ls sc')) : W p l e R s m args below meth c H locs cells slots Q (F0 m pc ls sc) := by
  cases ins
  case if_acmp cd off =>
    simp only [re_acm] at hq
    have hdg : decode cc pc = .ok (.if_acmp cd off, 3) := hlen.elim (fun q => absurd q (by simp [re_len])) (fun q => by rw [hdg0, q]; rfl)
    split at hq
    next v u r t ht =>
      split at hq
      next b hb9 =>
        cases hq
        obtain ⟨wv, s1, rfl, h1, rs1⟩ := re_rs_cons rs
        obtain ⟨wu, s2, rfl, h2, rs2⟩ := re_rs_cons rs1
        have key : ∃ ru rv : Option Nat, wu = va_rf ru ∧ wv = va_rf rv ∧ decide (ru = rv) = b := by
          unfold re_seq at hb9
          split at hb9
          next => cases hb9; exact ⟨none, none, h2, h1, rfl⟩
          next i j =>
            cases hb9
            obtain ⟨a1, k1, rfl⟩ := h2
            obtain ⟨a2, k2, rfl⟩ := h1
            refine ⟨some a1, some a2, rfl, rfl, ?_⟩
            cases hij : Nat.beq i j with
            | true =>
              cases Nat.eq_of_beq_eq_true hij
              cases k1.symm.trans k2
              exact decide_eq_true rfl
            | false =>
              refine decide_eq_false (fun z => ?_)
              cases Option.some.inj z
              exact absurd (hnd i j _ k1 k2) (Nat.ne_of_beq_eq_false hij)
          next j =>
            cases hb9
            obtain ⟨a2, k2, rfl⟩ := h1
            exact ⟨none, some a2, h2, rfl, rfl⟩
          next i =>
            cases hb9
            obtain ⟨a1, k1, rfl⟩ := h2
            exact ⟨some a1, none, rfl, h1, rfl⟩
          next n => cases hb9; exact ⟨none, some _, h2, h1, rfl⟩
          next n => cases hb9; exact ⟨some _, none, h2, h1, rfl⟩
          next m n =>
            cases hmn : Nat.beq m n with
            | true =>
              rw [hmn] at hb9
              cases hb9
              cases Nat.eq_of_beq_eq_true hmn
              exact ⟨some _, some _, h2, h1, decide_eq_true rfl⟩
            | false => rw [hmn] at hb9; cases hb9
          next => cases hb9
        obtain ⟨ru, rv, rfl, rfl, hd⟩ := key
        cases cd with
        | eq =>
          refine lv_acmp_eq hx hb hdg (re_jmp_ok ht) (fun z => ?_) (fun z => ?_)
          · rw [← hd, decide_eq_true z] at kk; exact kk _ rs2
          · rw [← hd, decide_eq_false z] at kk; exact kk _ rs2
        | ne =>
          refine lv_acmp_ne hx hb hdg (re_jmp_ok ht) (fun z => ?_) (fun z => ?_)
          · rw [← hd, decide_eq_false z] at kk; exact kk _ rs2
          · rw [← hd, decide_eq_true z] at kk; exact kk _ rs2
      next => cases hq
    next => cases hq
  all_goals (exact absurd hq (by simp [re_acm]))
end REY
end
section
/-! The walk itself. A program's tables: instructions, locals, return types, links. -/
abbrev re_G : Type := (Nat → Nat → Option Instr) × (Nat → Nat) × (Nat → Option FieldType) × (Nat → Nat → Option (Nat × Nat × FieldType × Nat)) × (Nat → Nat → Option (Nat × Nat × Nat)) × (Nat → Nat → Option (Nat × List Value)) × (Nat → Nat → Option Nat) × (Nat → Nat → Option Nat) × (Nat → Nat → Option Value) × (Nat → Nat → Bool) × (Nat → Bool) × (Nat → Nat) × Nat × (Nat → List (Nat × Nat × Nat × Nat)) × (Nat → Nat → Option Nat) × (Nat → Nat → Option (Nat × Nat))
abbrev re_ins (G : re_G) : Nat → Nat → Option Instr := G.1
abbrev re_nl (G : re_G) : Nat → Nat := G.2.1
abbrev re_rt (G : re_G) : Nat → Option FieldType := G.2.2.1
abbrev re_fl (G : re_G) : Nat → Nat → Option (Nat × Nat × FieldType × Nat) := G.2.2.2.1
abbrev re_cl (G : re_G) : Nat → Nat → Option (Nat × Nat × Nat) := G.2.2.2.2.1
abbrev re_nw (G : re_G) : Nat → Nat → Option (Nat × List Value) := G.2.2.2.2.2.1
abbrev re_an (G : re_G) : Nat → Nat → Option Nat := G.2.2.2.2.2.2.1
/-- at a method's place: an exception of that number is made and thrown -/
abbrev re_tw (G : re_G) : Nat → Nat → Option Nat := G.2.2.2.2.2.2.2.1
abbrev re_ks (G : re_G) : Nat → Nat → Option Value := G.2.2.2.2.2.2.2.2.1
abbrev re_ec (G : re_G) : Nat → Nat → Bool := G.2.2.2.2.2.2.2.2.2.1
abbrev re_isI (G : re_G) : Nat → Bool := G.2.2.2.2.2.2.2.2.2.2.1
/-- the class of a method, by its place among the classes -/
abbrev re_ct (G : re_G) : Nat → Nat := G.2.2.2.2.2.2.2.2.2.2.2.1
abbrev re_nE (G : re_G) : Nat := G.2.2.2.2.2.2.2.2.2.2.2.2.1
/-- a method's handlers: from, to, at, what -/
abbrev re_hh (G : re_G) : Nat → List (Nat × Nat × Nat × Nat) := G.2.2.2.2.2.2.2.2.2.2.2.2.2.1
/-- what a handler takes: the number of the exception -/
abbrev re_hk (G : re_G) : Nat → Nat → Option Nat := G.2.2.2.2.2.2.2.2.2.2.2.2.2.2.1
/-- members of the library that are known: kind, the method that a call through an interface comes to -/
abbrev re_jd (G : re_G) : Nat → Nat → Option (Nat × Nat) := G.2.2.2.2.2.2.2.2.2.2.2.2.2.2.2
/-- an outcome: how it ends (0 void, 1 int, 2 long, 3 a reference, 4 + e thrown), the answer, the heap; cells, slots, frames and locals that it takes -/
abbrev re_Res : Type := Nat × Value × re_H × Nat × Nat × Nat × Nat
def re_add (k n : Nat) (r : re_Res) : re_Res := (r.1, r.2.1, r.2.2.1, k + r.2.2.2.1, n + r.2.2.2.2.1, r.2.2.2.2.2.1, r.2.2.2.2.2.2)
def re_aft (ml : Nat) (a r : re_Res) : re_Res := (r.1, r.2.1, r.2.2.1, a.2.2.2.1 + r.2.2.2.1, a.2.2.2.2.1 + r.2.2.2.2.1, max (a.2.2.2.2.2.1 + 1) r.2.2.2.2.2.1, max (8 + (ml + 11) + a.2.2.2.2.2.2) r.2.2.2.2.2.2)
def re_mx (f n : Nat) (r : re_Res) : re_Res := (r.1, r.2.1, r.2.2.1, r.2.2.2.1, r.2.2.2.2.1, max f r.2.2.2.2.2.1, max n r.2.2.2.2.2.2)
def re_ret (rt : Option FieldType) (ins : Instr) (st : List Value) : Option (Nat × Value) := match ins with
  | .return_ => match rt, st with
    | none, [] => some (0, .null)
    | _, _ => none
  | .ireturn => match rt, st with
    | some ty, [.int v] => if narrow ty (.int v) = .int v then some (1, .int v) else none
    | some .int, [.float v] => some (1, .float v)
    | _, _ => none
  | .lreturn => match rt, st with
    | some .long, [.long v] => some (2, .long v)
    | some .long, [.double v] => some (2, .double v)
    | _, _ => none
  | .areturn => match rt, st with
    | some (.object _), [.ref i] => some (3, .ref i)
    | some (.object _), [.null] => some (3, .null)
    | some (.array _), [.ref i] => some (3, .ref i)
    | some (.array _), [.null] => some (3, .null)
    | _, _ => none
  | _ => none
/-- what makes a cell: the next pc, the stack, the cell -/
def re_mk (nw : Nat → Option (Nat × List Value)) (an : Nat → Option Nat) (pc : Nat) (st : List Value) (hn : Nat) (ins : Instr) : Option (Nat × List Value × re_C) := match ins with
  | .new idx => match nw idx with
    | some d => if d.1 < 100 then some (pc + 3, .ref hn :: st, d) else none
    | none => none
  | .newarray .int => match st with
    | .int n :: r => if ¬ n < 0 ∧ n.toNatClampNeg * 4 ≤ 536870912 then some (pc + 2, .ref hn :: r, (100, List.replicate n.toNatClampNeg (.int 0))) else none
    | _ => none
  | .newarray .long => match st with
    | .int n :: r => if ¬ n < 0 ∧ n.toNatClampNeg * 8 ≤ 536870912 then some (pc + 2, .ref hn :: r, (101, List.replicate n.toNatClampNeg (.long 0))) else none
    | _ => none
  | .newarray .boolean => match st with
    | .int n :: r => if ¬ n < 0 ∧ n.toNatClampNeg * 4 ≤ 536870912 then some (pc + 2, .ref hn :: r, (102, List.replicate n.toNatClampNeg (.int 0))) else none
    | _ => none
  | .anewarray idx => match an idx, st with
    | some j, .int n :: r => if ¬ n < 0 ∧ n.toNatClampNeg * 4 ≤ 536870912 then some (pc + 3, .ref hn :: r, (100 + j, List.replicate n.toNatClampNeg .null)) else none
    | _, _ => none
  | _ => none
/-- what is pushed from a constant pool -/
def re_cst (ks : Nat → Option Value) (pc : Nat) (ins : Instr) : Option (Nat × Value) := match ins with
  | .ldc idx => match ks idx with
    | some (.int v) => some (pc + 2, .int v)
    | _ => none
  | .ldc_w idx => match ks idx with
    | some (.int v) => some (pc + 3, .int v)
    | _ => none
  | .ldc2_w idx => match ks idx with
    | some (.long v) => some (pc + 3, .long v)
    | _ => none
  | _ => none
def re_inv (cl : Nat → Option (Nat × Nat × Nat)) (ins : Instr) : Option (Nat × Nat × Nat) := match ins with
  | .invokestatic idx => match cl idx with
    | some (0, y, n) => some (0, y, n)
    | some (8, y, n) => some (8, y, n)
    | some (4, y, n) => some (4, y, n)
    | _ => none
  | .invokevirtual idx => match cl idx with
    | some (1, y, n) => some (1, y, n)
    | some (5, y, n) => some (5, y, n)
    | _ => none
  | .invokespecial idx => match cl idx with
    | some (2, y, n) => some (2, y, n)
    | some (3, y, n) => some (3, y, n)
    | some (6, y, n) => some (6, y, n)
    | _ => none
  | _ => none
def re_cat (st : List Value) : Nat := (st.map fun v => v.category).sum
def re_vl (r : re_Res) (rest : List Value) : List Value := if r.1 = 0 then rest else r.2.1 :: rest
/-- who takes the exception x: nobody, or the handler there; none: not known -/
def re_hf (hk : Nat → Option Nat) (pc x : Nat) : List (Nat × Nat × Nat × Nat) → Option (Option Nat)
  | [] => some none
  | z :: r => if z.1 ≤ pc ∧ pc < z.2.1 then (match hk z.2.2.2 with
    | some x' => if x' = x then some (some z.2.2.1) else re_hf hk pc x r
    | none => none) else re_hf hk pc x r
/-- a handler begins with a store: the local, the next pc -/
def re_hs (nL : Nat) (ins : Option Instr) (h : Nat) : Option (Nat × Nat) := match ins with
  | some (.astore_n k) => if (k : Nat) < nL then some ((k : Nat), h + 1) else none
  | some (.astore k) => if k < nL then some (k, h + 2) else none
  | _ => none
/-- answers, and methods whose outcome is known -/
abbrev re_K : Type := re_O × re_A × List Value × (Nat → List Value → re_H → Option re_Res)
def re_lv9 (lv : List (Nat × Value)) (k : Nat) : List (Nat × Value) := lv.filter (fun q => !(q.1 == k) && !(q.1 + 1 == k && re_c2 lv q.1))
/-- what a known member of the library does; frames and locals that it takes -/
def re_jdk (jd : Nat → Option (Nat × Nat)) (pc : Nat) (st : List Value) (ins : Instr) : Option (Nat × List Value × Nat × Nat) := match ins with
  | .invokestatic idx => match jd idx, st with
    | some (1, _), .long y :: .long x :: r => if re_cat r ≤ 8 then some (pc + 3, .long (if y < x then y else x) :: r, 1, 23) else none
    | _, _ => none
  | _ => none
def re_go (G : re_G) (O : re_K) : Nat → Nat → Nat → List (Nat × Value) → List Value → re_H → Option re_Res
  | 0, _, _, _, _, _ => none
  | n + 1, y, pc, lv, st, h => match re_tw G y pc with
    | some x => some (4 + x, .null, h, 1, 6, 6, re_cat st + 82)
    | none => match re_ins G y pc with
    | none => none
    | some ins => match re_pure O.1 (re_nl G y) pc lv st ins with
      | some q => re_go G O n y q.1 q.2.1 q.2.2 h
      | none => match re_hp (re_nE G) (re_fl G y) (re_ec G) (re_isI G y) pc st h ins with
        | some q => re_go G O n y q.1 lv q.2.1 q.2.2
        | none => match re_ret (re_rt G y) ins st with
          | some q => some (q.1, q.2, h, 0, 0, 0, 0)
          | none => match re_mk (re_nw G y) (re_an G y) pc st h.1 ins with
            | some q => (re_go G O n y q.1 lv q.2.1 (re_hq h q.2.2)).map (re_add 1 q.2.2.2.length)
            | none => match re_cst (re_ks G y) pc ins with
              | some q => re_go G O n y q.1 lv (q.2 :: st) h
              | none => match re_acm pc st ins with
              | some q => re_go G O n y q.1 lv q.2 h
              | none => match re_ora O.2.1 pc st ins with
              | some q => re_go G O n y q.1 lv q.2 h
              | none => match re_scr O.2.2.1 pc st ins with
              | some q => re_go G O n y q.1 lv q.2 h
              | none => match re_jdk (re_jd G y) pc st ins with
              | some q => (re_go G O n y q.1 lv q.2.1 h).map (re_mx q.2.2.1 q.2.2.2)
              | none => match re_inv (re_cl G y) ins with
                | none => none
                | some (k, y', na) => if k = 3 then (match st with
                    | .ref _ :: r => if re_cat r ≤ 8 then (re_go G O n y (pc + 3) lv r h).map (re_mx 1 20) else none
                    | _ => none)
                  else if k = 0 ∨ k = 4 ∨ k = 8 then (
                    if re_cat (st.drop na) ≤ 8 ∧ (st.take na).length = na ∧ re_cat (st.take na).reverse ≤ re_nl G y' then
                    match (match O.2.2.2 y' (st.take na).reverse h with
                      | some a => some a
                      | none => re_go G O n y' 0 (lv_args 0 (st.take na).reverse) [] h) with
                    | none => none
                    | some a => if a.1 < 4 then (re_go G O n y (pc + 3) lv (re_vl a (st.drop na)) a.2.2.1).map (re_aft (re_nl G y') a) else (match re_hf (re_hk G y) pc (a.1 - 4) (re_hh G y) with
                      | some none => some (re_aft (re_nl G y') a (a.1, a.2.1, a.2.2.1, 0, 0, 0, 0))
                      | some (some hp) => (match re_hs (re_nl G y) (re_ins G y hp) hp with
                        | some (k, npc) => (re_go G O n y npc (re_lv9 lv k) [] a.2.2.1).map (re_aft (re_nl G y') a)
                        | none => none)
                      | none => none)
                    else none)
                  else (match st.drop na with
                    | .ref i :: r => if re_cat r ≤ 8 ∧ (st.take na).length = na ∧ re_cat (.ref i :: (st.take na).reverse) ≤ re_nl G y' then
                      match re_hg h i with
                      | some (t, _) => if t = re_ct G y' then
                        match (match O.2.2.2 y' (.ref i :: (st.take na).reverse) h with
                          | some a => some a
                          | none => re_go G O n y' 0 (lv_args 0 (.ref i :: (st.take na).reverse)) [] h) with
                        | none => none
                        | some a => if a.1 < 4 then (re_go G O n y (pc + 3) lv (re_vl a r) a.2.2.1).map (re_aft (re_nl G y') a) else (match re_hf (re_hk G y) pc (a.1 - 4) (re_hh G y) with
                          | some none => some (re_aft (re_nl G y') a (a.1, a.2.1, a.2.2.1, 0, 0, 0, 0))
                          | some (some hp) => (match re_hs (re_nl G y) (re_ins G y hp) hp with
                            | some (k, npc) => (re_go G O n y npc (re_lv9 lv k) [] a.2.2.1).map (re_aft (re_nl G y') a)
                            | none => none)
                          | none => none)
                        else none
                      | none => none
                      else none
                    | _ => none)
end
section
/-! What the tables must say, and what a frame's state is. -/
abbrev re_N : Type := (Nat → MethodName) × (Nat → ByteArray) × List Cond × List vw_C × (Nat → FieldType) × List (String × Nat × String) × (Nat → String) × List Cond
abbrev re_yn (N : re_N) : Nat → MethodName := N.1
abbrev re_yb (N : re_N) : Nat → ByteArray := N.2.1
abbrev re_B (N : re_N) : List Cond := N.2.2.1
abbrev re_cs (N : re_N) : List vw_C := N.2.2.2.1
abbrev re_E (N : re_N) : Nat → FieldType := N.2.2.2.2.1
abbrev re_SL (N : re_N) : List (String × Nat × String) := N.2.2.2.2.2.1
abbrev re_xn (N : re_N) : Nat → String := N.2.2.2.2.2.2.1
/-- words of the tables that are handed on by themselves -/
abbrev re_TW (N : re_N) : List Cond := N.2.2.2.2.2.2.2
/-- a method's own word -/
def re_cw (N : re_N) (G : re_G) (y : Nat) : Cond := match re_hh G y with
  | [] => Cond.code (re_yn N y) (re_yb N y) (re_nl G y) (re_rt G y)
  | hh => Cond.codeWith (re_yn N y) (re_yb N y) (re_nl G y) (re_rt G y) hh
def re_ws (N : re_N) (G : re_G) (y : Nat) : List Cond := re_cw N G y :: re_B N
def re_xs : List String := ["java/lang/RuntimeException", "java/lang/Exception"]
def re_okF (N : re_N) (y idx ci k : Nat) (ty : FieldType) (fin : Nat) : Prop := ∃ (r : vw_C) (ref : String), (re_cs N)[ci]? = some r ∧ k < r.2.2 ∧ Cond.fieldLink (re_yn N y).cls idx ref (r.2.1 k).2.1 (r.2.1 k).2.2.1 ∈ re_B N ∧ (ref = (r.2.1 k).1 ∨ Cond.sameField ref (r.2.1 k).1 (r.2.1 k).2.1 (r.2.1 k).2.2.1 ∈ re_B N) ∧ parseFieldDescriptor (r.2.1 k).2.2.1 = some ty ∧ (fin = 0 → (r.2.1 k).2.2.2 = false) ∧ (fin = 1 → (r.2.1 k).2.2.2 = true ∧ (r.2.1 k).1 = (re_yn N y).cls)
def re_okM (N : re_N) (G : re_G) (y' na : Nat) : Prop := re_cw N G y' ∈ re_B N ∧ Cond.initialized (re_yn N y').cls ∈ re_B N ∧ plainName (re_yn N y').cls = true ∧
  ((re_yn N y').cls ≠ "java/lang/invoke/MethodHandle" ∧ (re_yn N y').cls ≠ "java/lang/invoke/VarHandle" ∧ (parseMethodDescriptor (re_yn N y').desc).map (fun d => d.parameters.length) = some na)
def re_okC (N : re_N) (G : re_G) (y idx k y' na : Nat) : Prop := (k = 3 → Cond.methodLink (re_yn N y).cls idx Lib.objectInit ∈ re_B N ∧ Cond.instanceMethod Lib.objectInit ∈ re_B N ∧ Cond.code Lib.objectInit ⟨#[0xb1]⟩ 1 none ∈ re_B N) ∧
  (¬ k = 3 → re_okM N G y' na) ∧ (k = 0 ∨ k = 1 ∨ k = 2 ∨ k = 8 → Cond.methodLink (re_yn N y).cls idx (re_yn N y') ∈ re_B N) ∧ (k = 4 ∨ k = 5 ∨ k = 6 → ∃ z, Cond.methodLinkNest (re_yn N y).cls idx (re_yn N y') z ∈ re_TW N) ∧
  (k = 0 ∨ k = 4 ∨ k = 8 → Cond.static (re_yn N y') ∈ re_B N) ∧ (k = 1 ∨ k = 2 ∨ k = 5 ∨ k = 6 → Cond.instanceMethod (re_yn N y') ∈ re_B N) ∧ (k = 1 ∨ k = 5 → Cond.selects (re_yn N y').cls (re_yn N y') (re_yn N y') ∈ re_B N ∧ ∃ r : vw_C, (re_cs N)[re_ct G y']? = some r ∧ r.1 = (re_yn N y').cls) ∧
  (k = 2 ∨ k = 6 → (re_yn N y').name = "<init>" ∧ re_rt G y' = none) ∧ (¬ k = 3 → ¬ k = 8 → re_hh G y' = []) ∧ (k = 8 → ¬ re_hh G y' = [])
def re_okW (N : re_N) (y idx : Nat) (d : Nat × List Value) : Prop := d.1 < 100 → ∃ r : vw_C, (re_cs N)[d.1]? = some r ∧ Cond.classLink (re_yn N y).cls idx r.1 ∈ re_B N ∧ Cond.instantiable r.1 r.2.2 ∈ re_B N ∧ Cond.initialized r.1 ∈ re_B N ∧ d.2.length = r.2.2 ∧ (∀ v ∈ d.2, v = .null ∨ v = .int 0 ∨ v = .long 0) ∧
  ∀ (ty : Nat → FieldType), (∀ k, k < r.2.2 → parseFieldDescriptor (r.2.1 k).2.2.1 = some (ty k)) → ∀ j, j < r.2.2 → defaultValue (ty j) = vp_V d.2 j
def re_okT (N : re_N) (y pc x : Nat) : Prop := x < 3 ∧ ∃ (ik is ic : Nat) (text : String), Bundle.fit (re_xn N x) = true ∧ Cond.classLink (re_yn N y).cls ik (re_xn N x) ∈ re_B N ∧ Cond.initialized (re_xn N x) ∈ re_B N ∧ ((re_yn N y).cls, is, text) ∈ re_SL N ∧
  (∀ w ∈ (vx_atS (re_yn N y).cls ic (re_xn N x) re_xs), w ∈ re_B N ∨ w ∈ re_TW N) ∧ (∀ w ∈ Cond.classLink (re_yn N y).cls ik (re_xn N x) :: Cond.initialized (re_xn N x) :: vx_atS (re_yn N y).cls ic (re_xn N x) re_xs, vx_ot w = true) ∧
  decode (re_yb N y) pc = .ok (.new ik, 3) ∧ decode (re_yb N y) (pc + 3) = .ok (.dup, 1) ∧ ((decode (re_yb N y) (pc + 4) = .ok (.ldc is, 2) ∧ decode (re_yb N y) (pc + 6) = .ok (.invokespecial ic, 3) ∧ decode (re_yb N y) (pc + 9) = .ok (.athrow, 1)) ∨
  (decode (re_yb N y) (pc + 4) = .ok (.ldc_w is, 3) ∧ decode (re_yb N y) (pc + 7) = .ok (.invokespecial ic, 3) ∧ decode (re_yb N y) (pc + 10) = .ok (.athrow, 1)))
def re_okK (N : re_N) (y idx : Nat) (v : Value) : Prop := (∀ x : Int32, v = .int x → Cond.constant (re_yn N y).cls idx x ∈ re_B N) ∧ ∀ x : Int64, v = .long x → Cond.constantLong (re_yn N y).cls idx x ∈ re_B N
def re_ok (N : re_N) (G : re_G) : Prop :=
  (∀ y pc ins, re_ins G y pc = some ins → ∃ len, decode (re_yb N y) pc = .ok (ins, len) ∧ (re_len ins = 0 ∨ len = re_len ins)) ∧
  (∀ y idx ci k ty fin, re_fl G y idx = some (ci, k, ty, fin) → re_okF N y idx ci k ty fin) ∧
  re_Cl (re_cs N) (re_B N) ∧
  (re_E N 0 = .int ∧ re_E N 1 = .long ∧ re_E N 2 = .boolean ∧ 3 ≤ re_nE G ∧ ∀ j, 3 ≤ j → j < re_nE G → ∃ nm, re_E N j = .object nm) ∧
  (∀ j ci, re_ec G j ci = true → ∃ r : vw_C, (re_cs N)[ci]? = some r ∧ (re_E N j = .object r.1 ∨ ∃ nm, re_E N j = .object nm ∧ Cond.castable r.1 nm ∈ re_TW N)) ∧
  (∀ y, re_isI G y = true → (re_yn N y).name = "<init>") ∧
  (∀ y idx k y' na, re_cl G y idx = some (k, y', na) → re_okC N G y idx k y' na) ∧
  (∀ y idx d, re_nw G y idx = some d → re_okW N y idx d) ∧
  (∀ y idx j, re_an G y idx = some j → 3 ≤ j ∧ j < re_nE G ∧ ∃ C, re_E N j = .object C ∧ Cond.classLink (re_yn N y).cls idx C ∈ re_B N) ∧
  (Cond.arrayClass .int ∈ re_B N ∧ Cond.arrayClass .long ∈ re_B N ∧ Cond.arrayClass .boolean ∈ re_B N) ∧
  (∀ y idx v, re_ks G y idx = some v → re_okK N y idx v) ∧
  (∀ y pc x, re_tw G y pc = some x → re_okT N y pc x ∧ re_hh G y = []) ∧
  (∀ w ∈ re_B N, goodWord w = true) ∧
  (∀ w ∈ re_TW N, (∃ C T, w = .castable C T) ∨ (∃ a i x z, w = .methodLinkNest a i x z) ∨ ∃ x, w = .declares x) ∧
  ∀ y t x, re_hk G y t = some x → x < 3 ∧ ¬ t = 0 ∧ Cond.classLink (re_yn N y).cls t (re_xn N x) ∈ re_B N ∧ Cond.castable (re_xn N x) (re_xn N x) ∈ re_TW N
def re_okD (N : re_N) (y idx k : Nat) : Prop := k = 1 → Cond.methodLink (re_yn N y).cls idx Lib.MathLoose.min_long.x ∈ re_B N ∧ Cond.static Lib.MathLoose.min_long.x ∈ re_B N ∧ Cond.initialized "java/lang/Math" ∈ re_B N ∧ Cond.code Lib.MathLoose.min_long.x Lib.MathLoose.min_long.code 4 (some .long) ∈ re_B N
def re_okJ (N : re_N) (G : re_G) : Prop := ∀ y idx k y', re_jd G y idx = some (k, y') → re_okD N y idx k
/-- what a state of the machine is, whatever runs there -/
def re_At (V : re_V) (N : re_N) (D : va_G) (tys : List (ClassId × FieldType)) (B0 : Nat) (U : State) : Prop := va_K D (re_cs N) tys U ∧ vx_Zq Bundle.tN "UNASSIGNED_STACK" Bundle.steD (fun q => B0 ≤ q) U U.heap ∧ vx_Zq Bundle.tN "SUPPRESSED_SENTINEL" Bundle.listD (fun q => B0 ≤ q) U U.heap ∧
  (∀ q ∈ re_SL N, ∃ a, vk_R q.1 q.2.1 q.2.2 a U) ∧ B0 ≤ U.heap.size ∧ (∀ (j : Nat) (C : String), re_E N j = .object C → va_AO C U) ∧ (∀ w ∈ re_TW N, ((∃ C T, w = .castable C T) ∨ (∃ a i x z, w = .methodLinkNest a i x z) ∨ ∃ x, w = .declares x) ∧ va_Nw w U) ∧
  va_X (V.1 2) V.2.2.2.1 V.2.2.2.2 U U.heap ∧ V.1 2 < B0 ∧ (∀ x x' : Nat, x < 3 → x' < 3 → ¬ x = x' → va_Nc (re_xn N x) (re_xn N x') U) ∧ True
def re_Wd (V : re_V) (N : re_N) (D : va_G) (cA : Nat → ClassId) (B0 : Nat) (ad : List Nat) (h : re_H) (ws : va_W) (H : Heap) : Prop := re_rW V (re_E N) cA ad h ws ∧ va_P D (re_cs N) ws H ∧ va_D (fun q => B0 ≤ q) ws
def re_Pc (V : re_V) (N : re_N) (D : va_G) (tys : List (ClassId × FieldType)) (cA : Nat → ClassId) (B0 : Nat) (asC : List Value) (ad : List Nat) (h : re_H) (ws : va_W) : Array Value → State → Prop := va_Pc asC (fun U => re_At V N D tys B0 U ∧ re_Wd V N D cA B0 ad h ws U.heap)
def re_Q (V : re_V) (N : re_N) (D : va_G) (cA : Nat → ClassId) (B0 : Nat) (ad0 : List Nat) (k : Nat) (v : Value) (h : re_H) : Array Value → State → Outcome → State → Prop := fun _ st oc t =>
  (∃ (w : Option Value) (q : List Nat) (ws2 : va_W), oc = .returned w ∧ k < 4 ∧ (k = 0 → w = none) ∧ (¬ k = 0 → ∃ w', w = some w' ∧ re_rv V (ad0 ++ q) v w') ∧ re_Wd V N D cA B0 (ad0 ++ q) h ws2 t.heap) ∧ va_F (fun q => B0 ≤ q) st t
def re_XQ (V : re_V) (N : re_N) (D : va_G) (cA : Nat → ClassId) (B0 : Nat) (ad0 : List Nat) (k : Nat) (h : re_H) : String → State → State → Prop := fun En st t =>
  (∃ (x : Nat) (q : List Nat) (ws2 : va_W), k = 4 + x ∧ x < 3 ∧ En = re_xn N x ∧ re_Wd V N D cA B0 (ad0 ++ q) h ws2 t.heap) ∧ va_F (fun q => B0 ≤ q) st t
def re_Fr (V : re_V) (N : re_N) (G : re_G) (D : va_G) (tys : List (ClassId × FieldType)) (B0 y : Nat) (p : Program) (s : State) (m : MethodId) (args : Array Value) (meth : Method) (c : Code) : Prop :=
  p.tables.exec = Jvm.exec ∧ c.code = re_yb N y ∧ c.maxLocals = re_nl G y ∧ meth.sig.returnType = re_rt G y ∧ s.vm.findClass (re_yn N y).cls = some m.cls ∧ (∀ w ∈ re_ws N G y, w.before args s = true) ∧ meth.locks = false ∧ meth.name = (re_yn N y).name ∧ c.exceptionTable.toList.map (fun z => (z.startPc, z.endPc, z.handlerPc, z.catchType)) = re_hh G y ∧ re_At V N D tys B0 s
/-- the walk of n steps is what the machine does -/
def re_J (V : re_V) (O : re_K) (N : re_N) (G : re_G) (l : Launch) (D : va_G) (tys : List (ClassId × FieldType)) (cA : Nat → ClassId) (B0 n : Nat) : Prop :=
  ∀ (y pc : Nat) (lv : List (Nat × Value)) (st : List Value) (h : re_H) (res : re_Res), re_go G O n y pc lv st h = some res →
  ∀ (p : Program) (e : Env) (R : Room) (s : State) (m : MethodId) (args : Array Value) (below : List Frame) (meth : Method) (c : Code), re_Fr V N G D tys B0 y p s m args meth c →
  ∀ (H : Heap) (locs : List Loc) (cells slots : Nat) (ls : Array Slot) (lc : List (Nat × Value)) (sc : List Value) (ad0 q : List Nat) (ws : va_W), lv_has ls (re_nl G y) lc → re_rl V (ad0 ++ q) lv lc → re_rs V (ad0 ++ q) st sc → re_Wd V N D cA B0 (ad0 ++ q) h ws H → va_S (fun q => B0 ≤ q) s.heap H locs →
  ∀ (mc ms : Nat), cells + res.2.2.2.1 ≤ mc → slots + res.2.2.2.2.1 ≤ ms → mc ≤ R.cells → ms ≤ R.slots → res.2.2.2.2.2.1 ≤ R.frames → res.2.2.2.2.2.2 ≤ R.locals →
  W p l e R s m args below meth c H locs cells slots (vx_MQ below (re_Q V N D cA B0 ad0 res.1 res.2.1 res.2.2.1) (re_XQ V N D cA B0 ad0 res.1 res.2.2.1) args s mc ms (fun q => B0 ≤ q)) (F0 m pc ls sc)
theorem re_K_moved {V : re_V} {N : re_N} {D : va_G} {tys : List (ClassId × FieldType)} {B0 : Nat} {s U : State} {H : Heap} {locs : List Loc} (h : re_At V N D tys B0 s) (hS : va_S (fun q => B0 ≤ q) s.heap H locs) (hU : U.heap = H) (hW : s.WarmedH U.vm) : re_At V N D tys B0 U := by
  obtain ⟨h1, h2, h3, h4, h5, h6, h8, hx1, hx2, hx3⟩ := h
  refine ⟨va_K.moved hW.alike h1, ?_, ?_, fun q hq => ?_, ?_, fun j C hj => va_AO.moved hW.alike (h6 j C hj), fun w hw => ⟨(h8 w hw).1, ?_⟩, ?_, hx2, fun x x' a b z => va_Nc.moved hW.alike (hx3.1 x x' a b z), trivial⟩
  · rw [hU]; exact (vx_Zq.moved hW.alike h2).kept (fun a h6 h7 => hS.2.1 a h6 h7)
  · rw [hU]; exact (vx_Zq.moved hW.alike h3).kept (fun a h6 h7 => hS.2.1 a h6 h7)
  · obtain ⟨a, ha⟩ := h4 q hq
    exact ⟨a, vk_R.warm hW ha⟩
  · rw [hU]; exact Nat.le_trans h5 hS.1
  · obtain ⟨q1, q2⟩ := h8 w hw
    rcases q1 with ⟨C, T, rfl⟩ | ⟨a, i, x, z, rfl⟩ | ⟨x, rfl⟩
    · exact va_Nw.warmC hW q2
    · exact va_Nw.warmM hW q2
    · exact va_Nw.warmD hW q2
  · rw [hU]; exact (va_X.moved hW.alike hx1).kept (hS.2.1 _ (Nat.lt_of_lt_of_le hx2 h5) (by omega))
theorem re_blind {V : re_V} {N : re_N} {D : va_G} {tys : List (ClassId × FieldType)} {cA : Nat → ClassId} {B0 : Nat} {asC : List Value} {ad : List Nat} {h : re_H} {ws : va_W} : FrameBlind (re_Pc V N D tys cA B0 asC ad h ws) := by
  intro a U g mk hp
  obtain ⟨h0, ⟨h1, h2, h3, h4, h5, h7, h8, hx1, hx2, hx3⟩, h6⟩ := hp
  refine ⟨h0, ⟨va_K.moved (u := U) (U := U.calling g mk a) (Vm.Alike.refl U.vm) h1, vx_Zq.moved (u := U) (U := U.calling g mk a) (Vm.Alike.refl U.vm) h2, vx_Zq.moved (u := U) (U := U.calling g mk a) (Vm.Alike.refl U.vm) h3, fun q hq => ?_, h5, fun j C hj => va_AO.moved (u := U) (U := U.calling g mk a) (Vm.Alike.refl U.vm) (h7 j C hj), fun w hw => ⟨(h8 w hw).1, ?_⟩, va_X.moved (u := U) (U := U.calling g mk a) (Vm.Alike.refl U.vm) hx1, hx2, fun x x' a9 b9 z9 => va_Nc.moved (u := U) (U := U.calling g mk a) (Vm.Alike.refl U.vm) (hx3.1 x x' a9 b9 z9), trivial⟩, h6⟩
  · obtain ⟨b, hb⟩ := h4 q hq
    exact ⟨b, vk_R.same (u := U) (U := U.calling g mk a) rfl hb⟩
  · obtain ⟨q1, q2⟩ := h8 w hw
    rcases q1 with ⟨C, T, rfl⟩ | ⟨a, i, x, z, rfl⟩ | ⟨x, rfl⟩
    · exact va_Nw.same (u := U) rfl rfl q2
    · exact va_Nw.same (u := U) rfl rfl q2
    · exact va_Nw.same (u := U) rfl rfl q2
theorem re_args {V : re_V} {ad : List Nat} : ∀ {vs ws : List Value} (i : Nat), re_rs V ad vs ws → re_rl V ad (lv_args i vs) (lv_args i ws)
  | [], [], _, _ => fun j v h => by cases h
  | [], _ :: _, _, h => absurd h id
  | _ :: _, [], _, h => absurd h id
  | v :: vs, w :: ws, i, h => by
    have e := re_rv_cat h.1
    refine re_rl_cons i h.1 ?_
    rw [e]
    exact re_args _ h.2
theorem re_cat_c {V : re_V} {ad : List Nat} : ∀ {vs ws : List Value}, re_rs V ad vs ws → re_cat ws = re_cat vs
  | [], [], _ => rfl
  | [], _ :: _, h => absurd h id
  | _ :: _, [], h => absurd h id
  | v :: vs, w :: ws, h => by
    have ih := re_cat_c h.2
    unfold re_cat at ih ⊢
    rw [List.map_cons, List.map_cons, List.sum_cons, List.sum_cons, ih, re_rv_cat h.1]
theorem re_sl : ∀ vs : List Value, (lg_sl vs).length ≤ re_cat vs
  | [] => Nat.le_refl _
  | v :: vs => by
    have ih := re_sl vs
    unfold re_cat lg_sl at ih ⊢
    rw [List.flatMap_cons, List.length_append, List.map_cons, List.sum_cons]
    have : (if v.category = 2 then [Slot.val v, Slot.second] else [Slot.val v]).length ≤ v.category := by
      split
      · next h => rw [h]; exact Nat.le_refl _
      · next h => cases v <;> first | exact Nat.le_refl _ | exact absurd rfl h
    omega
theorem re_rs_take {V : re_V} {ad : List Nat} : ∀ {vs ws : List Value} (n : Nat), re_rs V ad vs ws → re_rs V ad (vs.take n) (ws.take n) ∧ re_rs V ad (vs.drop n) (ws.drop n)
  | [], [], n, _ => by simp [re_rs]
  | [], _ :: _, _, h => absurd h id
  | _ :: _, [], _, h => absurd h id
  | _ :: _, _ :: _, 0, h => ⟨trivial, h⟩
  | _ :: _, _ :: _, n + 1, h => ⟨⟨h.1, (re_rs_take n h.2).1⟩, (re_rs_take n h.2).2⟩
theorem re_rs_rev {V : re_V} {ad : List Nat} : ∀ {vs ws : List Value}, re_rs V ad vs ws → re_rs V ad vs.reverse ws.reverse
  | [], [], _ => trivial
  | [], _ :: _, h => absurd h id
  | _ :: _, [], h => absurd h id
  | _ :: _, _ :: _, h => by
    rw [List.reverse_cons, List.reverse_cons]
    exact re_rs_app (re_rs_rev h.2) ⟨h.1, trivial⟩
/-- methods whose outcome is known: what is known is so -/
def re_Pok (V : re_V) (O : re_K) (N : re_N) (G : re_G) (l : Launch) (D : va_G) (tys : List (ClassId × FieldType)) (cA : Nat → ClassId) (B0 : Nat) : Prop :=
  ∀ (y' : Nat) (as : List Value) (h : re_H) (a : re_Res), O.2.2.2 y' as h = some a → ∀ (ad : List Nat) (ws : va_W) (asC : List Value), re_rs V ad as asC →
  vx_Met l (re_yn N y') (re_ws N G y') ({ frames := a.2.2.2.2.2.1, cells := a.2.2.2.1, slots := a.2.2.2.2.1, locals := a.2.2.2.2.2.2 }) (re_Pc V N D tys cA B0 asC ad h ws) (re_Q V N D cA B0 ad a.1 a.2.1 a.2.2.1) (re_XQ V N D cA B0 ad a.1 a.2.2.1) a.2.2.2.1 a.2.2.2.2.1 (fun q => B0 ≤ q)
end
section
/-! The walk's pieces: what makes cells, returns, throws, calls. -/
theorem re_RA_eq {U : State} {a b : ClassId} {t : FieldType} (h1 : va_RA U a t) (h2 : va_RA U b t) : a = b := by
  cases t with
  | object C =>
    obtain ⟨-, -, -, -, -, e1⟩ := h1
    obtain ⟨-, -, -, -, -, e2⟩ := h2
    exact Option.some.inj (e1.symm.trans e2)
  | _ => exact Option.some.inj ((show U.vm.findClass _ = some a from h1).symm.trans h2)
theorem re_tys_eq {D : va_G} {cl : List vw_C} {tys : List (ClassId × FieldType)} {U : State} {a b : ClassId} {t : FieldType} {j : Nat} (hK : va_K D cl (tys ++ [(a, t)]) U) (hj : tys[j]? = some (b, t)) : a = b := by
  have hlt := (List.getElem?_eq_some_iff.mp hj).1
  have h1 := (hK.2 tys.length (a, t) (by rw [List.getElem?_append_right (Nat.le_refl _), Nat.sub_self]; rfl)).2
  have h2 := (hK.2 j (b, t) (by rw [List.getElem?_append_left hlt]; exact hj)).2
  exact re_RA_eq h1 h2
theorem re_rs_def {V : re_V} {ad : List Nat} : ∀ {vs : List Value}, (∀ v ∈ vs, v = .null ∨ v = .int 0 ∨ v = .long 0) → re_rs V ad vs vs
  | [], _ => trivial
  | v :: vs, h => ⟨by rcases h v List.mem_cons_self with rfl | rfl | rfl <;> exact rfl, re_rs_def (fun w hw => h w (List.mem_cons_of_mem _ hw))⟩
theorem re_rep_get {v : Value} {n i : Nat} {w : Value} (h : (List.replicate n v)[i]? = some w) : w = v := by
  rw [List.getElem?_replicate] at h
  split at h
  · exact (Option.some.inj h).symm
  · cases h
section REX
variable {V : re_V} {p : Program} {l : Launch} {e : Env} {R : Room} {s : State} {m : MethodId} {args : Array Value} {below : List Frame} {meth : Method} {c : Code} {H : Heap} {locs : List Loc} {cells slots : Nat} {Q : State → Prop} {pc : Nat} {ls : Array Slot}
variable {N : re_N} {G : re_G} {D : va_G} {tys : List (ClassId × FieldType)} {cA : Nat → ClassId} {B0 y : Nat}
theorem re_mk_ok (hG : re_ok N G) (hE : ∀ j, j < re_nE G → tys[j]? = some (cA j, re_E N j)) (F : re_Fr V N G D tys B0 y p s m args meth c) {ins : Instr} {len : Nat} {st sc : List Value} {h : re_H} {ws : va_W} {ad : List Nat} {q : Nat × List Value × re_C}
    (hdg0 : decode (re_yb N y) pc = .ok (ins, len)) (hlen : re_len ins = 0 ∨ len = re_len ins) (hq : re_mk (re_nw G y) (re_an G y) pc st h.1 ins = some q) (rs : re_rs V ad st sc) (hW : re_Wd V N D cA B0 ad h ws H) (hS : va_S (fun q => B0 ≤ q) s.heap H locs)
    (hc1 : cells + 1 ≤ R.cells) (hs1 : slots + q.2.2.2.length ≤ R.slots)
    (kk : ∀ (a : Nat) (H1 : Heap) (ws' : va_W) (sc' : List Value), re_Wd V N D cA B0 (ad ++ [a]) (re_hq h q.2.2) ws' H1 → va_S (fun q => B0 ≤ q) s.heap H1 locs → re_rs V (ad ++ [a]) q.2.1 sc' → W p l e R s m args below meth c H1 locs (cells + 1) (slots + q.2.2.2.length) Q (F0 m q.1 ls sc')) :
    W p l e R s m args below meth c H locs cells slots Q (F0 m pc ls sc) := by
  obtain ⟨hx, hb, hml, hr, hown, hts, hlocks, hname, hexc, hK, hZ1, hZ2, hSt, hB0, hAO, hTW⟩ := id F
  obtain ⟨o1, o2, o3, ⟨o4a, o4b, o4c, o4d, o4e⟩, o5, o6, o7, o8, o9, ⟨o10a, o10b, o10c⟩, o11, o12, o13, o14, o15⟩ := id hG
  obtain ⟨rw0, hP, hD⟩ := hW
  have hA : ∀ q : Nat, s.heap.size ≤ q → (fun q => B0 ≤ q) q := fun q hq => Nat.le_trans hB0 hq
  have hsz : ad.length = h.1 := rw0.1
  have hnew : ∀ a : Nat, re_rv V (ad ++ [a]) (.ref h.1) (.ref a) := fun a => ⟨a, by rw [List.getElem?_append_right (by omega), hsz, Nat.sub_self]; rfl, rfl⟩
  have hBin : ∀ w ∈ re_B N, w.before args s = true := fun w hw => hts w (List.mem_cons_of_mem _ hw)
  cases ins
  case new idx =>
    simp only [re_mk] at hq
    have hdg : decode (re_yb N y) pc = .ok (.new idx, 3) := hlen.elim (fun q => absurd q (by simp [re_len])) (fun q => by rw [hdg0, q]; rfl)
    split at hq
    next d hd =>
      split at hq
      next hd1 =>
        cases hq
        obtain ⟨⟨C, T, n⟩, k1, k2, k3, k4, k5, k6, k7⟩ := o8 _ _ _ hd hd1
        obtain ⟨hin, ⟨ty, hty⟩, hnm⟩ := o3.2 _ _ k1
        refine va_new (D := D) hx hb hts (fun w hw => List.mem_cons_of_mem _ (hin w hw)) ty hty hown (hBin _ k2) (hBin _ k3) (hBin _ k4) hK hP hD hS hA k1 (fs := d.2) (k7 ty hty) hc1 (by have : d.2.length = n := k5; rw [← this]; exact hs1) hdg (fun a H1 hP1 hD1 hS1 => ?_)
        have e5 : n = d.2.length := Eq.symm k5
        rw [e5]
        exact kk a H1 _ _ ⟨re_rW_push rw0 (Or.inl ⟨hd1, _, rfl, re_rs_def k6⟩), hP1, hD1⟩ hS1 ⟨hnew a, re_rs_up [a] rs⟩
      next => cases hq
    next => cases hq
  case newarray at9 =>
    have hdg : decode (re_yb N y) pc = .ok (.newarray at9, 2) := hlen.elim (fun q => absurd q (by simp [re_len])) (fun q => by rw [hdg0, q]; rfl)
    cases at9
    case int =>
      simp only [re_mk] at hq
      split at hq
      next n r =>
        split at hq
        next hn =>
          cases hq
          obtain ⟨sr, rfl, rs1⟩ := re_rs_i rs
          simp only [List.length_replicate] at hs1 kk
          refine va_newa (atype := .int) hx hb (hBin _ o10a) (ty := .int) rfl hK hP hD hS hA (a0 := (n.toNatClampNeg, .inl (fun _ => 0))) (fun _ => rfl) hn.1 rfl hn.2 hc1 hs1 hdg (fun a cA' H1 hK1 hP1 hD1 hS1 => ?_)
          have ec := re_tys_eq hK1 (show tys[0]? = some (cA 0, .int) by rw [← o4a]; exact hE 0 (by omega))
          subst ec
          exact kk a H1 _ _ ⟨re_rW_push rw0 (Or.inr ⟨0, .inl (fun _ => 0), rfl, by rw [List.length_replicate], by rw [o4a]; exact ⟨_, rfl, fun i v hv => (by rw [re_rep_get hv]; exact rfl)⟩⟩), hP1, hD1⟩ hS1 ⟨hnew a, re_rs_up [a] rs1⟩
        next => cases hq
      next => cases hq
    case long =>
      simp only [re_mk] at hq
      split at hq
      next n r =>
        split at hq
        next hn =>
          cases hq
          obtain ⟨sr, rfl, rs1⟩ := re_rs_i rs
          simp only [List.length_replicate] at hs1 kk
          refine va_newa (atype := .long) hx hb (hBin _ o10b) (ty := .long) rfl hK hP hD hS hA (a0 := (n.toNatClampNeg, .inr (.inl (fun _ => 0)))) (fun _ => rfl) hn.1 rfl hn.2 hc1 hs1 hdg (fun a cA' H1 hK1 hP1 hD1 hS1 => ?_)
          have ec := re_tys_eq hK1 (show tys[1]? = some (cA 1, .long) by rw [← o4b]; exact hE 1 (by omega))
          subst ec
          exact kk a H1 _ _ ⟨re_rW_push rw0 (Or.inr ⟨1, .inr (.inl (fun _ => 0)), rfl, by rw [List.length_replicate], by rw [o4b]; exact ⟨_, rfl, fun i v hv => (by rw [re_rep_get hv]; exact rfl)⟩⟩), hP1, hD1⟩ hS1 ⟨hnew a, re_rs_up [a] rs1⟩
        next => cases hq
      next => cases hq
    case boolean =>
      simp only [re_mk] at hq
      split at hq
      next n r =>
        split at hq
        next hn =>
          cases hq
          obtain ⟨sr, rfl, rs1⟩ := re_rs_i rs
          simp only [List.length_replicate] at hs1 kk
          refine va_newa (atype := .boolean) hx hb (hBin _ o10c) (ty := .boolean) rfl hK hP hD hS hA (a0 := (n.toNatClampNeg, .inl (fun _ => 0))) (fun _ => rfl) hn.1 rfl (show n.toNatClampNeg * 1 ≤ 536870912 by have := hn.2; omega) hc1 hs1 hdg (fun a cA' H1 hK1 hP1 hD1 hS1 => ?_)
          have ec := re_tys_eq hK1 (show tys[2]? = some (cA 2, .boolean) by rw [← o4c]; exact hE 2 (by omega))
          subst ec
          exact kk a H1 _ _ ⟨re_rW_push rw0 (Or.inr ⟨2, .inl (fun _ => 0), rfl, by rw [List.length_replicate], by rw [o4c]; exact ⟨_, rfl, fun i v hv => (by rw [re_rep_get hv]; exact rfl)⟩⟩), hP1, hD1⟩ hS1 ⟨hnew a, re_rs_up [a] rs1⟩
        next => cases hq
      next => cases hq
    all_goals (exact absurd hq (by simp [re_mk]))
  case anewarray idx =>
    simp only [re_mk] at hq
    have hdg : decode (re_yb N y) pc = .ok (.anewarray idx, 3) := hlen.elim (fun q => absurd q (by simp [re_len])) (fun q => by rw [hdg0, q]; rfl)
    split at hq
    next j n r hj =>
      split at hq
      next hn =>
        cases hq
        obtain ⟨j1, j2, C, j3, j4⟩ := o9 _ _ _ hj
        obtain ⟨sr, rfl, rs1⟩ := re_rs_i rs
        simp only [List.length_replicate] at hs1 kk
        refine va_newq (D := D) hx hb hown (hBin _ j4) (hAO j C j3) hK hP hD hS hA hn.1 rfl hn.2 hc1 hs1 hdg (fun a cA' H1 hK1 hP1 hD1 hS1 => ?_)
        have ec := re_tys_eq hK1 (show tys[j]? = some (cA j, .object C) by rw [← j3]; exact hE j j2)
        subst ec
        exact kk a H1 _ _ ⟨re_rW_push rw0 (Or.inr ⟨j, .inr (.inr (.inr (.inr (fun _ => none)))), rfl, by rw [List.length_replicate], by rw [j3]; exact ⟨_, rfl, fun i v hv => by rw [re_rep_get hv]; exact rfl⟩⟩), hP1, hD1⟩ hS1 ⟨hnew a, re_rs_up [a] rs1⟩
      next => cases hq
    next => cases hq
  all_goals (exact absurd hq (by simp [re_mk]))
theorem re_cst_ok (hG : re_ok N G) (F : re_Fr V N G D tys B0 y p s m args meth c) {ins : Instr} {len : Nat} {sc : List Value} {q : Nat × Value}
    (hdg0 : decode (re_yb N y) pc = .ok (ins, len)) (hlen : re_len ins = 0 ∨ len = re_len ins) (hq : re_cst (re_ks G y) pc ins = some q)
    (kk : (∀ (V : re_V) (ad : List Nat), re_rv V ad q.2 q.2) → W p l e R s m args below meth c H locs cells slots Q (F0 m q.1 ls (q.2 :: sc))) :
    W p l e R s m args below meth c H locs cells slots Q (F0 m pc ls sc) := by
  obtain ⟨hx, hb, hml, hr, hown, hts, -⟩ := id F
  obtain ⟨o1, o2, o3, o4, o5, o6, o7, o8, o9, o10, o11, o12, o13, o14, o15⟩ := id hG
  have hBin : ∀ w ∈ re_B N, w.before args s = true := fun w hw => hts w (List.mem_cons_of_mem _ hw)
  cases ins
  case ldc idx =>
    simp only [re_cst] at hq
    have hdg : decode (re_yb N y) pc = .ok (.ldc idx, 2) := hlen.elim (fun q => absurd q (by simp [re_len])) (fun q => by rw [hdg0, q]; rfl)
    split at hq
    next v hv => cases hq; exact lv_ldc hx hb hown (hBin _ ((o11 _ _ _ hv).1 v rfl)) hdg (kk (fun _ _ => rfl))
    next => cases hq
  case ldc_w idx =>
    simp only [re_cst] at hq
    have hdg : decode (re_yb N y) pc = .ok (.ldc_w idx, 3) := hlen.elim (fun q => absurd q (by simp [re_len])) (fun q => by rw [hdg0, q]; rfl)
    split at hq
    next v hv => cases hq; exact lv_ldcw hx hb hown (hBin _ ((o11 _ _ _ hv).1 v rfl)) hdg (kk (fun _ _ => rfl))
    next => cases hq
  case ldc2_w idx =>
    simp only [re_cst] at hq
    have hdg : decode (re_yb N y) pc = .ok (.ldc2_w idx, 3) := hlen.elim (fun q => absurd q (by simp [re_len])) (fun q => by rw [hdg0, q]; rfl)
    split at hq
    next v hv => cases hq; exact lv_ldc2 hx hb hown (hBin _ ((o11 _ _ _ hv).2 v rfl)) hdg (kk (fun _ _ => rfl))
    next => cases hq
  all_goals (exact absurd hq (by simp [re_cst]))
theorem re_ret_ok (F : re_Fr V N G D tys B0 y p s m args meth c) {ins : Instr} {len : Nat} {st sc : List Value} {h : re_H} {ws : va_W} {ad0 q9 : List Nat} {q : Nat × Value} {mc ms : Nat}
    (hdg0 : decode (re_yb N y) pc = .ok (ins, len)) (hlen : re_len ins = 0 ∨ len = re_len ins) (hq : re_ret (re_rt G y) ins st = some q) (rs : re_rs V (ad0 ++ q9) st sc) (hW : re_Wd V N D cA B0 (ad0 ++ q9) h ws H) (hS : va_S (fun q => B0 ≤ q) s.heap H locs)
    (hc1 : cells ≤ mc) (hs1 : slots ≤ ms) :
    W p l e R s m args below meth c H locs cells slots (vx_MQ below (re_Q V N D cA B0 ad0 q.1 q.2 h) (re_XQ V N D cA B0 ad0 q.1 h) args s mc ms (fun q => B0 ≤ q)) (F0 m pc ls sc) := by
  obtain ⟨hx, hb, hml, hr, hown, hts, hlocks, -⟩ := id F
  refine W.widen hc1 hs1 (vx_ret ?_)
  have hend : ∀ (k : Nat) (v : Value) (w : Option Value), k < 4 → (k = 0 → w = none) → (¬ k = 0 → ∃ w', w = some w' ∧ re_rv V (ad0 ++ q9) v w') → ∀ t : State, t.heap = H → s.WarmedH t.vm → re_Q V N D cA B0 ad0 k v h args s (.returned w) t := fun k v w h1 h2 h3 t ht hW9 => by
    refine ⟨⟨w, q9, ws, rfl, h1, h2, h3, ?_⟩, hS.F ht⟩
    rw [ht]
    exact hW
  cases ins
  case return_ =>
    simp only [re_ret] at hq
    have hdg : decode (re_yb N y) pc = .ok (.return_, 1) := hlen.elim (fun q => absurd q (by simp [re_len])) (fun q => by rw [hdg0, q]; rfl)
    split at hq
    next hrt =>
      cases hq
      cases re_rs_nil rs
      exact W.vret hx hb (hr.trans hrt) (hend 0 .null none (by omega) (fun _ => rfl) (fun z => absurd rfl z)) hS.2.2 hdg hlocks
    next => cases hq
  case ireturn =>
    simp only [re_ret] at hq
    have hdg : decode (re_yb N y) pc = .ok (.ireturn, 1) := hlen.elim (fun q => absurd q (by simp [re_len])) (fun q => by rw [hdg0, q]; rfl)
    split at hq
    next ty v hrt =>
      split at hq
      next hn =>
        cases hq
        obtain ⟨sr, rfl, rs1⟩ := re_rs_i rs
        cases re_rs_nil rs1
        exact W.zret hx hb (hr.trans hrt) hn (hend 1 (.int v) (some (.int v)) (by omega) (fun z => by cases z) (fun _ => ⟨_, rfl, rfl⟩)) hS.2.2 hdg hlocks
      next => cases hq
    next v hrt =>
      cases hq
      obtain ⟨sr, rfl, rs1⟩ := re_rs_f rs
      cases re_rs_nil rs1
      exact W.zret hx hb (hr.trans hrt) rfl (hend 1 (.float v) (some (.int (V.2.1 v.toNat))) (by omega) (fun z => by cases z) (fun _ => ⟨_, rfl, rfl⟩)) hS.2.2 hdg hlocks
    next => cases hq
  case lreturn =>
    simp only [re_ret] at hq
    have hdg : decode (re_yb N y) pc = .ok (.lreturn, 1) := hlen.elim (fun q => absurd q (by simp [re_len])) (fun q => by rw [hdg0, q]; rfl)
    split at hq
    next v hrt =>
      cases hq
      obtain ⟨sr, rfl, rs1⟩ := re_rs_l rs
      cases re_rs_nil rs1
      exact W.lret hx hb (hr.trans hrt) (hend 2 (.long v) (some (.long v)) (by omega) (fun z => by cases z) (fun _ => ⟨_, rfl, rfl⟩)) hS.2.2 hdg hlocks
    next v hrt =>
      cases hq
      obtain ⟨sr, rfl, rs1⟩ := re_rs_d rs
      cases re_rs_nil rs1
      exact W.lret hx hb (hr.trans hrt) (hend 2 (.double v) (some (.long (V.2.2.1 v.toNat))) (by omega) (fun z => by cases z) (fun _ => ⟨_, rfl, rfl⟩)) hS.2.2 hdg hlocks
    next => cases hq
  case areturn =>
    simp only [re_ret] at hq
    have hdg : decode (re_yb N y) pc = .ok (.areturn, 1) := hlen.elim (fun q => absurd q (by simp [re_len])) (fun q => by rw [hdg0, q]; rfl)
    split at hq
    next n i hrt =>
      cases hq
      obtain ⟨a, sr, rfl, ha, rs1⟩ := re_rs_r rs
      cases re_rs_nil rs1
      exact W.aret hx hb (hr.trans hrt) (Or.inl ⟨_, rfl⟩) (Or.inr ⟨_, rfl⟩) (hend 3 (.ref i) (some (.ref a)) (by omega) (fun z => by cases z) (fun _ => ⟨_, rfl, a, ha, rfl⟩)) hS.2.2 hdg hlocks
    next n hrt =>
      cases hq
      obtain ⟨sr, rfl, rs1⟩ := re_rs_n rs
      cases re_rs_nil rs1
      exact W.aret hx hb (hr.trans hrt) (Or.inl ⟨_, rfl⟩) (Or.inl rfl) (hend 3 .null (some .null) (by omega) (fun z => by cases z) (fun _ => ⟨_, rfl, rfl⟩)) hS.2.2 hdg hlocks
    next n i hrt =>
      cases hq
      obtain ⟨a, sr, rfl, ha, rs1⟩ := re_rs_r rs
      cases re_rs_nil rs1
      exact W.aret hx hb (hr.trans hrt) (Or.inr ⟨_, rfl⟩) (Or.inr ⟨_, rfl⟩) (hend 3 (.ref i) (some (.ref a)) (by omega) (fun z => by cases z) (fun _ => ⟨_, rfl, a, ha, rfl⟩)) hS.2.2 hdg hlocks
    next n hrt =>
      cases hq
      obtain ⟨sr, rfl, rs1⟩ := re_rs_n rs
      cases re_rs_nil rs1
      exact W.aret hx hb (hr.trans hrt) (Or.inr ⟨_, rfl⟩) (Or.inl rfl) (hend 3 .null (some .null) (by omega) (fun z => by cases z) (fun _ => ⟨_, rfl, rfl⟩)) hS.2.2 hdg hlocks
    next => cases hq
  all_goals (exact absurd hq (by simp [re_ret]))
theorem re_run {Qa : State → Outcome → State → Prop} {XC : String → State → State → Prop} {free : Addr → Prop} {mc ms : Nat} {st0 rest : List Value} {A0 : Nat → Prop} (hr : vx_Run p l e R s m args below meth c H locs cells slots mc ms (F0 m pc ls st0) rest Qa XC free) (hS : va_S A0 s.heap H locs) (hf : ∀ q, free q → A0 q)
    (hQ : ∀ st v t, Qa st (.returned v) t → va_F A0 st t) (hX : ∀ En st t, XC En st t → va_F A0 st t)
    (kk : ∀ (v : Option Value) (st₀ t : State) (H1 : Heap) (locs1 : List Loc), t.heap = H1 → Qa st₀ (.returned v) t → va_S A0 s.heap H1 locs1 → W p l e R s m args below meth c H1 locs1 (cells + mc) (slots + ms) Q (F0 m (pc + 3) ls (v.toList ++ rest)))
    (kx : ∀ (En : String) (ce : Cell) (q9 : Addr) (st₀ t : State) (H1 : Heap) (locs1 : List Loc), t.heap = H1 → XC En st₀ t → va_S A0 s.heap H1 locs1 → H1[q9]? = some ce → ce.vm = .none → s.vm.findClass En = some ce.cls → vx_W p l e R s m args below meth c H1 locs1 (cells + mc) (slots + ms) Q (F0 m pc ls rest) q9) :
    W p l e R s m args below meth c H locs cells slots Q (F0 m pc ls st0) := by
  intro T hT X
  rcases hr T hT X with ⟨v, st₀, t, T', L, h0, X', hL, e1, e2, hq, st⟩ | ⟨q, st₀, t, T', L, En, ce, h0, X', hL, e1, e2, hq, hce, hcv, hcl, st⟩
  · obtain ⟨k1, k2, k3⟩ := vx_keep h0 e1 hS (fun _ _ z => z) hf hL (hQ _ _ _ hq)
    obtain ⟨t2, a1, b1⟩ := kk v st₀ t T'.heap (locs ++ L) e1.symm hq k3 T' rfl X'
    exact ⟨t2, st t2 a1, b1⟩
  · obtain ⟨k1, k2, k3⟩ := vx_keep h0 e1 hS (fun _ _ z => z) hf hL (hX _ _ _ hq)
    obtain ⟨t2, a1, b1⟩ := kx En ce q st₀ t T'.heap (locs ++ L) e1.symm hq k3 (by rw [e1]; exact hce) hcv hcl T' rfl X'
    exact ⟨t2, st.trans a1, b1⟩
end REX
end
section
/-! The walk is what the machine does. -/
section REM
variable {V : re_V} {O : re_K} {p : Program} {l : Launch} {e : Env} {R : Room} {s : State} {m : MethodId} {args : Array Value} {below : List Frame} {meth : Method} {c : Code} {H : Heap} {locs : List Loc} {cells slots : Nat} {Q : State → Prop} {pc : Nat} {ls : Array Slot}
variable {N : re_N} {G : re_G} {D : va_G} {tys : List (ClassId × FieldType)} {cA : Nat → ClassId} {B0 y : Nat}
theorem re_Wd_kept {ad : List Nat} {h : re_H} {ws : va_W} {H1 : Heap} (hW : re_Wd V N D cA B0 ad h ws H) (hk : ∀ q : Nat, q < H.size → H1[q]? = H[q]?) : re_Wd V N D cA B0 ad h ws H1 :=
  ⟨hW.1, fun k q hq => (hW.2.1 k q hq).kept (hk _ (hW.2.1 k q hq).lt), hW.2.2⟩
theorem re_throw_ok (hl : l.stackTraces = false) (hG : re_ok N G) (F : re_Fr V N G D tys B0 y p s m args meth c) {x : Nat} {st sc : List Value} {h : re_H} {ws : va_W} {ad0 q9 : List Nat} {mc ms nL : Nat} {lc : List (Nat × Value)} {v : Value}
    (hx9 : re_tw G y pc = some x) (hls : lv_has ls (re_nl G y) lc) (rs : re_rs V (ad0 ++ q9) st sc) (hW : re_Wd V N D cA B0 (ad0 ++ q9) h ws H) (hS : va_S (fun q => B0 ≤ q) s.heap H locs)
    (hc1 : cells + 1 ≤ mc) (hs1 : slots + 6 ≤ ms) (hmc : mc ≤ R.cells) (hms : ms ≤ R.slots) (hfr : 6 ≤ R.frames) (hlo : re_cat st + 82 ≤ R.locals) :
    W p l e R s m args below meth c H locs cells slots (vx_MQ below (re_Q V N D cA B0 ad0 (4 + x) v h) (re_XQ V N D cA B0 ad0 (4 + x) h) args s mc ms (fun q => B0 ≤ q)) (F0 m pc ls sc) := by
  obtain ⟨hx, hb, hml, hr, hown, hts, hlocks, hname, hexc, hK, hZ1, hZ2, hSt, hB0, hAO, hTW, hX1, hX2, hX3⟩ := id F
  obtain ⟨o1, o2, o3, o4, o5, o6, o7, o8, o9, o10, o11, o12, o13, o14, o15⟩ := id hG
  have hBin : ∀ w ∈ re_B N, w.before args s = true := fun w hw => hts w (List.mem_cons_of_mem _ hw)
  obtain ⟨⟨tx, ik, is, ic, text, t1, t2, t3, t4, t5, t6, t7, t8, t9⟩, thh⟩ := o12 _ _ _ hx9
  have hno : ∀ z ∈ c.exceptionTable.toList, False := fun z hz => by
    rw [thh] at hexc
    rw [List.map_eq_nil_iff.mp hexc] at hz
    exact absurd hz List.not_mem_nil
  obtain ⟨sa, hsa⟩ := hSt _ t4
  have hat : ∀ w ∈ vx_atS (re_yn N y).cls ic (re_xn N x) re_xs, w.before args s = true := fun w hw => by
    rcases t5 w hw with h1 | h1
    · exact hBin w h1
    · obtain ⟨q1, q2⟩ := hTW w h1
      rcases q1 with ⟨C, T, rfl⟩ | ⟨a, i, x, z, rfl⟩ | ⟨x, rfl⟩
      · exact va_Nw.use rfl q2
      · exact va_Nw.use rfl q2
      · exact va_Nw.use rfl q2
  have hcats : (sc.map fun v => v.category).sum + 82 ≤ R.locals := by
    have := re_cat_c rs
    unfold re_cat at this hlo
    omega
  have hend : ∀ t : State, s.vm.Alike t.vm → H.size ≤ t.heap.size → (∀ q : Nat, q < H.size → t.heap[q]? = H[q]?) → re_XQ V N D cA B0 ad0 (4 + x) h (re_xn N x) s t := fun t hvm hz hk => by
    refine ⟨⟨x, q9, ws, rfl, tx, rfl, re_Wd_kept hW hk⟩, Nat.le_trans hS.1 hz, fun q h1 h2 => ?_⟩
    rw [hk q (Nat.lt_of_lt_of_le h1 hS.1)]
    exact hS.2.1 q h1 h2
  rcases t9 with ⟨t9, t10, t11⟩ | ⟨t9, t10, t11⟩
  · exact vx_throwS (A := fun q => B0 ≤ q) hx hb hl (names := re_xs) hown t1 (by decide +kernel) (hBin _ t2) (hBin _ t3) hsa hat t6 hZ1 hZ2 hS (by rw [hls.1, hml]) t7 t8 t9 t10 t11 (fun z hz => (hno z hz).elim) (show 5 < R.frames by omega) hcats (by omega) (by omega) hlocks hend hS.2.2 hc1 hs1
  · exact vx_throwSW (A := fun q => B0 ≤ q) hx hb hl (names := re_xs) hown t1 (by decide +kernel) (hBin _ t2) (hBin _ t3) hsa hat t6 hZ1 hZ2 hS (by rw [hls.1, hml]) t7 t8 t9 t10 t11 (fun z hz => (hno z hz).elim) (show 5 < R.frames by omega) hcats (by omega) (by omega) hlocks hend hS.2.2 hc1 hs1
/-- a method, out of the walk of its body -/
theorem re_met {n : Nat} (hJ : re_J V O N G l D tys cA B0 n) {y : Nat} {as asC : List Value} {h : re_H} {res : re_Res} (hy : plainName (re_yn N y).cls = true) (hgo : re_go G O n y 0 (lv_args 0 as) [] h = some res) {ad : List Nat} {ws : va_W} (rs : re_rs V ad as asC) (hn : re_cat as ≤ re_nl G y) :
    vx_Met l (re_yn N y) (re_ws N G y) ({ frames := res.2.2.2.2.2.1, cells := res.2.2.2.1, slots := res.2.2.2.2.1, locals := res.2.2.2.2.2.2 }) (re_Pc V N D tys cA B0 asC ad h ws) (re_Q V N D cA B0 ad res.1 res.2.1 res.2.2.1) (re_XQ V N D cA B0 ad res.1 res.2.2.1) res.2.2.2.1 res.2.2.2.2.1 (fun q => B0 ≤ q) := by
  have hbody : ∀ (p : Program) (e : Env) (s : State) (m : MethodId) (args : Array Value) (below : List Frame) (meth : Method) (c : Code) (s₁ : State), BodyLoose p l (re_yn N y) (headSpec (re_ws N G y) { frames := res.2.2.2.2.2.1, cells := res.2.2.2.1, slots := res.2.2.2.2.1, locals := res.2.2.2.2.2.2 }) (re_yb N y) (re_nl G y) (re_rt G y) e s m args below meth c s₁ → c.maxLocals = re_nl G y →
      c.exceptionTable.toList.map (fun z => (z.startPc, z.endPc, z.handlerPc, z.catchType)) = re_hh G y → re_Pc V N D tys cA B0 asC ad h ws args s →
      W p l e ({ frames := res.2.2.2.2.2.1, cells := res.2.2.2.1, slots := res.2.2.2.2.1, locals := res.2.2.2.2.2.2 } : Room) s m args below meth c s.heap [] 0 0 (vx_MQ below (re_Q V N D cA B0 ad res.1 res.2.1 res.2.2.1) (re_XQ V N D cA B0 ad res.1 res.2.2.1) args s res.2.2.2.1 res.2.2.2.2.1 (fun q => B0 ≤ q)) (entryFrame m args (re_nl G y)) := by
    intro p e s m args below meth c s₁ B hml hexc hPc
    obtain ⟨rfl, hAt, hWd⟩ := hPc
    have hts := atoms_spec (ws := re_ws N G y) B.pre
    have hown : s.vm.findClass (re_yn N y).cls = some m.cls := findClass_of_methodNamed B.named
    have hnm : meth.name = (re_yn N y).name := (name_of_methodNamed B.named B.method).1
    have hl := lv_entry asC (n := re_nl G y) (Nat.le_trans (re_sl asC) (by rw [re_cat_c rs]; exact hn))
    rw [lg_entry_eq]
    generalize (lg_sl asC ++ List.replicate (re_nl G y - (lg_sl asC).length) Slot.unset).toArray = ls at hl ⊢
    exact hJ y 0 _ [] h res hgo p e _ s m _ below meth c ⟨B.exec, B.bytes, hml, B.returns, hown, hts, B.notSynchronized, hnm, hexc, hAt⟩ s.heap [] 0 0 ls _ [] ad [] ws hl (by rw [List.append_nil]; exact re_args 0 rs) trivial (by rw [List.append_nil]; exact hWd) va_S.rf _ _ (by omega) (by omega) (Nat.le_refl _) (Nat.le_refl _) (Nat.le_refl _) (Nat.le_refl _)
  cases hhh : re_hh G y with
  | nil =>
    refine vx_ofW (cc := re_yb N y) (maxL := re_nl G y) (ret := re_rt G y) (ws' := re_B N) hy (by unfold re_ws re_cw; rw [hhh]) ?_
    intro p e s m args below meth c s₁ B hml hexc hPc
    refine hbody p e s m args below meth c s₁ B hml ?_ hPc
    rw [hhh]
    cases hl9 : c.exceptionTable.toList with
    | nil => rfl
    | cons z r => exact (hexc z (by rw [hl9]; exact List.mem_cons_self)).elim
  | cons z9 r9 =>
    refine vx_ofWH (cc := re_yb N y) (maxL := re_nl G y) (ret := re_rt G y) (ws' := re_B N) (hh := re_hh G y) hy (by unfold re_ws re_cw; rw [hhh]) ?_
    intro p e s m args below meth c s₁ B hml hPc
    refine hbody p e s m args below meth c s₁ B hml ?_ hPc
    have hts := atoms_spec (ws := re_ws N G y) B.pre
    have hw : Cond.codeWith (re_yn N y) (re_yb N y) (re_nl G y) (re_rt G y) (re_hh G y) ∈ re_ws N G y := by unfold re_ws re_cw; rw [hhh]; exact List.mem_cons_self
    obtain ⟨m9, meth9, c9, hn9, hm9, hc9, -, -, ht9, -⟩ := Cond.codeWith_spec (hts _ hw)
    cases B.named.symm.trans hn9
    cases B.method.symm.trans hm9
    have hcode : meth.code = some c := (Stand.of_body B).code
    cases hcode.symm.trans hc9
    exact ht9
theorem re_good (hG : re_ok N G) {y y' na : Nat} (hM : re_okM N G y' na) : GoodIn (re_ws N G y) (re_ws N G y') := by
  obtain ⟨o1, o2, o3, o4, o5, o6, o7, o8, o9, o10, o11, o12, o13, o14, o15⟩ := id hG
  intro w hw
  have hB : w ∈ re_B N := by
    rcases List.mem_cons.mp hw with rfl | h1
    · exact hM.1
    · exact h1
  exact ⟨List.mem_cons_of_mem _ hB, good_of_word (o13 w hB)⟩
theorem re_hf_none {hk : Nat → Option Nat} {pc x : Nat} : ∀ {rows : List (Nat × Nat × Nat × Nat)}, re_hf hk pc x rows = some none → ∀ z ∈ rows, (¬ (z.1 ≤ pc ∧ pc < z.2.1)) ∨ ∃ x', hk z.2.2.2 = some x' ∧ ¬ x' = x
  | [], _, z, hz => absurd hz List.not_mem_nil
  | w :: r, h, z, hz => by
    unfold re_hf at h
    split at h
    next hc =>
      split at h
      next x' hx' =>
        split at h
        next => cases h
        next hne =>
          rcases List.mem_cons.mp hz with rfl | hz
          · exact Or.inr ⟨x', hx', hne⟩
          · exact re_hf_none h z hz
      next => cases h
    next hc =>
      rcases List.mem_cons.mp hz with rfl | hz
      · exact Or.inl hc
      · exact re_hf_none h z hz
theorem re_hf_some {hk : Nat → Option Nat} {pc x hp : Nat} : ∀ {rows : List (Nat × Nat × Nat × Nat)}, re_hf hk pc x rows = some (some hp) → ∃ (pre : List (Nat × Nat × Nat × Nat)) (z : Nat × Nat × Nat × Nat) (suf : List (Nat × Nat × Nat × Nat)), rows = pre ++ z :: suf ∧ (∀ w ∈ pre, (¬ (w.1 ≤ pc ∧ pc < w.2.1)) ∨ ∃ x', hk w.2.2.2 = some x' ∧ ¬ x' = x) ∧ (z.1 ≤ pc ∧ pc < z.2.1) ∧ hk z.2.2.2 = some x ∧ hp = z.2.2.1
  | [], h => by cases h
  | w :: r, h => by
    unfold re_hf at h
    split at h
    next hc =>
      split at h
      next x' hx' =>
        split at h
        next he => cases h; subst he; exact ⟨[], w, r, rfl, fun _ h => absurd h List.not_mem_nil, hc, hx', rfl⟩
        next hne =>
          obtain ⟨pre, z, suf, e1, e2, e3⟩ := re_hf_some h
          refine ⟨w :: pre, z, suf, by rw [e1]; rfl, fun w' hw' => ?_, e3⟩
          rcases List.mem_cons.mp hw' with rfl | hw'
          · exact Or.inr ⟨x', hx', hne⟩
          · exact e2 w' hw'
      next => cases h
    next hc =>
      obtain ⟨pre, z, suf, e1, e2, e3⟩ := re_hf_some h
      refine ⟨w :: pre, z, suf, by rw [e1]; rfl, fun w' hw' => ?_, e3⟩
      rcases List.mem_cons.mp hw' with rfl | hw'
      · exact Or.inl hc
      · exact e2 w' hw'
def re_aftc (G : re_G) (O : re_K) (n y y' pc : Nat) (lv : List (Nat × Value)) (rest : List Value) (a : re_Res) : Option re_Res :=
  if a.1 < 4 then (re_go G O n y (pc + 3) lv (re_vl a rest) a.2.2.1).map (re_aft (re_nl G y') a) else (match re_hf (re_hk G y) pc (a.1 - 4) (re_hh G y) with
    | some none => some (re_aft (re_nl G y') a (a.1, a.2.1, a.2.2.1, 0, 0, 0, 0))
    | some (some hp) => (match re_hs (re_nl G y) (re_ins G y hp) hp with
      | some (k, npc) => (re_go G O n y npc (re_lv9 lv k) [] a.2.2.1).map (re_aft (re_nl G y') a)
      | none => none)
    | none => none)
/-- behind a call: the rest of the walk, or the throw goes on -/
theorem re_call_ok {n : Nat} (hJ : re_J V O N G l D tys cA B0 n) (hG : re_ok N G) (F : re_Fr V N G D tys B0 y p s m args meth c) {y' : Nat} {a res : re_Res} {lv lc : List (Nat × Value)} {st0 rest restC : List Value} {ad0 q9 : List Nat} {mc ms : Nat} {ar : Array Value}
    (hr : vx_Run p l e R s m args below meth c H locs cells slots a.2.2.2.1 a.2.2.2.2.1 (F0 m pc ls st0) restC (re_Q V N D cA B0 (ad0 ++ q9) a.1 a.2.1 a.2.2.1 ar) (re_XQ V N D cA B0 (ad0 ++ q9) a.1 a.2.2.1) (fun q => B0 ≤ q))
    (hl : lv_has ls (re_nl G y) lc) (rl : re_rl V (ad0 ++ q9) lv lc) (rs : re_rs V (ad0 ++ q9) rest restC) (hS : va_S (fun q => B0 ≤ q) s.heap H locs)
    (hres : re_aftc G O n y y' pc lv rest a = some res)
    (hc1 : cells + res.2.2.2.1 ≤ mc) (hs1 : slots + res.2.2.2.2.1 ≤ ms) (hmc : mc ≤ R.cells) (hms : ms ≤ R.slots) (hfr : res.2.2.2.2.2.1 ≤ R.frames) (hlo : res.2.2.2.2.2.2 ≤ R.locals) :
    W p l e R s m args below meth c H locs cells slots (vx_MQ below (re_Q V N D cA B0 ad0 res.1 res.2.1 res.2.2.1) (re_XQ V N D cA B0 ad0 res.1 res.2.2.1) args s mc ms (fun q => B0 ≤ q)) (F0 m pc ls st0) := by
  obtain ⟨hx, hb, hml, hr', hown, hts, hlocks, hname, hexc, hAt⟩ := id F
  obtain ⟨hK, hZ1, hZ2, hSt, hB0, hAO, hTW, hX1, hX2, hX3⟩ := id hAt
  obtain ⟨o1, o2, o3, o4, o5, o6, o7, o8, o9, o10, o11, o12, o13, o14, o15⟩ := id hG
  have hBin : ∀ w ∈ re_B N, w.before args s = true := fun w hw => hts w (List.mem_cons_of_mem _ hw)
  unfold re_aftc at hres
  refine re_run hr hS (fun _ h => h) (fun st v t hq => hq.2) (fun En st t hq => hq.2) (fun v st₀ t H1 locs1 ht hq hS1 => ?_) (fun En ce q st₀ t H1 locs1 ht hq hS1 hce hcv hcl => ?_)
  · obtain ⟨⟨w, q2, ws2, hw, hk, hk0, hk1, hWd⟩, -⟩ := hq
    cases hw
    rw [if_pos hk] at hres
    obtain ⟨r, hr2, rfl⟩ := Option.map_eq_some_iff.mp hres
    rw [ht] at hWd
    have hst : re_rs V (ad0 ++ (q9 ++ q2)) (re_vl a rest) (v.toList ++ restC) := by
      rw [← List.append_assoc]
      unfold re_vl
      split
      · next h0 => rw [hk0 h0]; exact re_rs_up q2 rs
      · next h0 =>
        obtain ⟨w', hw', hv'⟩ := hk1 h0
        rw [hw']
        exact ⟨hv', re_rs_up q2 rs⟩
    have hc2 : cells + (a.2.2.2.1 + r.2.2.2.1) ≤ mc := hc1
    have hs2 : slots + (a.2.2.2.2.1 + r.2.2.2.2.1) ≤ ms := hs1
    have hf2 : max (a.2.2.2.2.2.1 + 1) r.2.2.2.2.2.1 ≤ R.frames := hfr
    have hl2 : max (8 + (re_nl G y' + 11) + a.2.2.2.2.2.2) r.2.2.2.2.2.2 ≤ R.locals := hlo
    exact hJ y (pc + 3) lv _ _ r hr2 p e R s m args below meth c F H1 locs1 _ _ ls lc _ ad0 (q9 ++ q2) ws2 hl (by rw [← List.append_assoc]; exact re_rl_up q2 rl) hst (by rw [← List.append_assoc]; exact hWd) hS1 mc ms (by omega) (by omega) hmc hms (by omega) (by omega)
  · obtain ⟨⟨x, q2, ws2, hk, hx3, hEn, hWd⟩, -⟩ := hq
    rw [if_neg (by omega), show a.1 - 4 = x by omega] at hres
    rw [ht] at hWd
    have hpass : ∀ z : ExceptionTableEntry, ((¬ (z.startPc ≤ pc ∧ pc < z.endPc)) ∨ ∃ x', re_hk G y z.catchType = some x' ∧ ¬ x' = x) → covers z pc = false ∨ (z.catchType ≠ 0 ∧ ∃ nm : String, (Cond.classLink (re_yn N y).cls z.catchType nm).before args s = true ∧ va_Nc En nm s) := fun z hz => by
      rcases hz with hz | ⟨x', hx', hne⟩
      · refine Or.inl ?_
        cases hcv9 : covers z pc with
        | false => rfl
        | true =>
          simp only [covers, Bool.and_eq_true, decide_eq_true_eq] at hcv9
          exact absurd hcv9 hz
      · obtain ⟨k1, k2, k3, k4⟩ := o15 _ _ _ hx'
        exact Or.inr ⟨k2, _, hBin _ k3, by rw [hEn]; exact hX3.1 x x' hx3 k1 (fun z => hne z.symm)⟩
    split at hres
    next hnone =>
      cases hres
      have hc2 : cells + (a.2.2.2.1 + 0) ≤ mc := hc1
      have hs2 : slots + (a.2.2.2.2.1 + 0) ≤ ms := hs1
      refine vx_outP hown hlocks (fun z hz => hpass z (re_hf_none hnone (z.startPc, z.endPc, z.handlerPc, z.catchType) (by rw [← hexc]; exact List.mem_map.mpr ⟨z, hz, rfl⟩))) hce hcv hcl (fun t9 ht9 hvm => ?_) hS1.2.2 (by omega) (by omega)
      refine ⟨⟨x, q9 ++ q2, ws2, hk, hx3, hEn, ?_⟩, hS1.F ht9⟩
      rw [ht9, ← List.append_assoc]
      exact hWd
    next hp hsome =>
      split at hres
      next k npc hhs =>
        obtain ⟨r, hr2, rfl⟩ := Option.map_eq_some_iff.mp hres
        have hc2 : cells + (a.2.2.2.1 + r.2.2.2.1) ≤ mc := hc1
        have hs2 : slots + (a.2.2.2.2.1 + r.2.2.2.2.1) ≤ ms := hs1
        have hf2 : max (a.2.2.2.2.2.1 + 1) r.2.2.2.2.2.1 ≤ R.frames := hfr
        have hl2 : max (8 + (re_nl G y' + 11) + a.2.2.2.2.2.2) r.2.2.2.2.2.2 ≤ R.locals := hlo
        obtain ⟨pre, z4, suf, e1, e2, e3, e4, e5⟩ := re_hf_some hsome
        rw [e1] at hexc
        obtain ⟨T1, T2, f1, f2, f3⟩ := List.map_eq_append_iff.mp hexc
        obtain ⟨z, T3, f4, f5, f6⟩ := List.map_eq_cons_iff.mp f3
        subst f4
        subst f5
        obtain ⟨k1, k2, k3, k4⟩ := o15 _ _ _ e4
        refine vx_catch (own := (re_yn N y).cls) (name := re_xn N x) hown T1 z T3 f1 (fun w hw => hpass w (e2 _ (by rw [← f2]; exact List.mem_map.mpr ⟨w, hw, rfl⟩))) (by simp only [covers, Bool.and_eq_true, decide_eq_true_eq]; exact e3) k2 (hBin _ k3) (by rw [hEn]; exact va_Nw.use rfl (hTW _ k4).2) hce hcv hcl ?_
        have e5 : hp = z.handlerPc := e5
        rw [← e5]
        have hfin : ∀ (ls9 : Array Slot), lv_has ls9 (re_nl G y) ((k, Value.ref q) :: lc.filter (fun q => !(q.1 == k) && !(q.1 + 1 == k && q.2.category == 2))) → W p l e R s m args below meth c H1 locs1 (cells + a.2.2.2.1) (slots + a.2.2.2.2.1) (vx_MQ below (re_Q V N D cA B0 ad0 r.1 r.2.1 r.2.2.1) (re_XQ V N D cA B0 ad0 r.1 r.2.2.1) args s mc ms (fun q => B0 ≤ q)) (F0 m npc ls9 []) := fun ls9 hl9 =>
          hJ y npc _ _ _ r hr2 p e R s m args below meth c F H1 locs1 _ _ ls9 (lc.filter (fun q => !(q.1 == k) && !(q.1 + 1 == k && q.2.category == 2))) [] ad0 (q9 ++ q2) ws2 ⟨hl9.1, hl9.2.1, fun q hq => hl9.2.2 q (List.mem_cons_of_mem _ hq)⟩ (by rw [← List.append_assoc]; exact re_rl_filter (fun j => !(j == k) && !(j + 1 == k && re_c2 lv j)) _ (fun j u w9 z1 z2 z3 => by dsimp only at z3 ⊢; rw [z2, ← re_c2_some z1]; exact z3) (re_rl_up q2 rl)) trivial (by rw [← List.append_assoc]; exact hWd) hS1 mc ms (by omega) (by omega) hmc hms (by omega) (by omega)
        unfold re_hs at hhs
        split at hhs
        next k9 hk9 =>
          split at hhs
          next hkl =>
            cases hhs
            obtain ⟨len, hdg, hlen⟩ := o1 _ _ _ hk9
            have hdg' : decode (re_yb N y) hp = .ok (.astore_n k9, 1) := hlen.elim (fun q => absurd q (by simp [re_len])) (fun q => by rw [hdg, q]; rfl)
            exact lv_astore_n hx hb hdg' rfl hl hkl rfl hfin
          next => cases hhs
        next k9 hk9 =>
          split at hhs
          next hkl =>
            cases hhs
            obtain ⟨len, hdg, hlen⟩ := o1 _ _ _ hk9
            have hdg' : decode (re_yb N y) hp = .ok (.astore k, 2) := hlen.elim (fun q => absurd q (by simp [re_len])) (fun q => by rw [hdg, q]; rfl)
            exact lv_astore hx hb hdg' hl hkl rfl hfin
          next => cases hhs
        next => cases hhs
      next => cases hres
    next => cases hres
end REM
end
section
/-! The member of the library that the walk knows. -/
section REK
variable {V : re_V} {O : re_K} {p : Program} {l : Launch} {e : Env} {R : Room} {s : State} {m : MethodId} {args : Array Value} {below : List Frame} {meth : Method} {c : Code} {H : Heap} {locs : List Loc} {cells slots : Nat} {Q : State → Prop} {pc : Nat} {ls : Array Slot}
variable {N : re_N} {G : re_G} {D : va_G} {tys : List (ClassId × FieldType)} {cA : Nat → ClassId} {B0 y : Nat}
theorem re_jdk_ok (hG : re_ok N G) (hJD : re_okJ N G) (F : re_Fr V N G D tys B0 y p s m args meth c) {lc : List (Nat × Value)} (hl : lv_has ls (re_nl G y) lc) {ins : Instr} {len : Nat} {st sc : List Value} {ad : List Nat} {q : Nat × List Value × Nat × Nat}
    (hdg0 : decode (re_yb N y) pc = .ok (ins, len)) (hlen : re_len ins = 0 ∨ len = re_len ins) (hq : re_jdk (re_jd G y) pc st ins = some q) (rs : re_rs V ad st sc)
    (hfr : q.2.2.1 ≤ R.frames) (hlo : q.2.2.2 ≤ R.locals) (hc1 : cells ≤ R.cells) (hs1 : slots ≤ R.slots)
    (kk : ∀ (sc' : List Value), re_rs V ad q.2.1 sc' → W p l e R s m args below meth c H locs cells slots Q (F0 m q.1 ls sc')) :
    W p l e R s m args below meth c H locs cells slots Q (F0 m pc ls sc) := by
  obtain ⟨hx, hb, hml, hr, hown, hts, hlocks, hname, hexc, hK, hZ1, hZ2, hSt, hB0, hAO, hTW, hX1, hX2, hX3⟩ := id F
  have hBin : ∀ w ∈ re_B N, w.before args s = true := fun w hw => hts w (List.mem_cons_of_mem _ hw)
  have hml9 : c.maxLocals = ls.size := hml.trans hl.1.symm
  have hcats : ∀ {r sr : List Value}, re_rs V ad r sr → re_cat r ≤ 8 → (sr.map fun v => v.category).sum ≤ 8 := fun h1 h2 => by
    have := re_cat_c h1
    unfold re_cat at this h2
    omega
  cases ins
  case invokestatic idx =>
    simp only [re_jdk] at hq
    have hdg : decode (re_yb N y) pc = .ok (.invokestatic idx, 3) := hlen.elim (fun q => absurd q (by simp [re_len])) (fun q => by rw [hdg0, q]; rfl)
    split at hq
    next k9 y9 x r hj =>
      split at hq
      next hcat =>
        cases hq
        obtain ⟨w1, w2, w3, w4⟩ := hJD _ _ _ _ hj rfl
        obtain ⟨s1, rfl, rs1⟩ := re_rs_l rs
        obtain ⟨s2, rfl, rs2⟩ := re_rs_l rs1
        have hc9 := hcats rs2 hcat
        exact va_mmin_long hx hb hml9 hown (hBin _ w1) (hBin _ w2) (hBin _ w3) (hBin _ w4) hfr (by have : 23 ≤ R.locals := hlo; omega) hc1 hs1 hdg (kk _ ⟨rfl, rs2⟩)
      next => cases hq
    next => cases hq
  all_goals (exact absurd hq (by simp [re_jdk]))
end REK
end
section
section REA
variable {V : re_V} {O : re_K} {l : Launch} {N : re_N} {G : re_G} {D : va_G} {tys : List (ClassId × FieldType)} {cA : Nat → ClassId} {B0 : Nat}
theorem re_inv_ok {cl : Nat → Option (Nat × Nat × Nat)} {ins : Instr} {k y' na : Nat} (h : re_inv cl ins = some (k, y', na)) :
    (∃ idx, ins = .invokestatic idx ∧ (k = 0 ∨ k = 4 ∨ k = 8) ∧ cl idx = some (k, y', na)) ∨ (∃ idx, ins = .invokevirtual idx ∧ (k = 1 ∨ k = 5) ∧ cl idx = some (k, y', na)) ∨ ∃ idx, ins = .invokespecial idx ∧ (k = 2 ∨ k = 3 ∨ k = 6) ∧ cl idx = some (k, y', na) := by
  cases ins
  case invokestatic idx =>
    simp only [re_inv] at h
    split at h
    next z => cases h; exact Or.inl ⟨idx, rfl, Or.inl rfl, z⟩
    next z => cases h; exact Or.inl ⟨idx, rfl, Or.inr (Or.inr rfl), z⟩
    next z => cases h; exact Or.inl ⟨idx, rfl, Or.inr (Or.inl rfl), z⟩
    next => cases h
  case invokevirtual idx =>
    simp only [re_inv] at h
    split at h
    next z => cases h; exact Or.inr (Or.inl ⟨idx, rfl, Or.inl rfl, z⟩)
    next z => cases h; exact Or.inr (Or.inl ⟨idx, rfl, Or.inr rfl, z⟩)
    next => cases h
  case invokespecial idx =>
    simp only [re_inv] at h
    split at h
    next z => cases h; exact Or.inr (Or.inr ⟨idx, rfl, Or.inl rfl, z⟩)
    next z => cases h; exact Or.inr (Or.inr ⟨idx, rfl, Or.inr (Or.inl rfl), z⟩)
    next z => cases h; exact Or.inr (Or.inr ⟨idx, rfl, Or.inr (Or.inr rfl), z⟩)
    next => cases h
  all_goals (exact absurd h (by simp [re_inv]))
theorem re_res_le {n y y' pc : Nat} {lv : List (Nat × Value)} {rest : List Value} {a res : re_Res} (h : re_aftc G O n y y' pc lv rest a = some res) :
    a.2.2.2.1 ≤ res.2.2.2.1 ∧ a.2.2.2.2.1 ≤ res.2.2.2.2.1 ∧ a.2.2.2.2.2.1 + 1 ≤ res.2.2.2.2.2.1 ∧ 8 + (re_nl G y' + 11) + a.2.2.2.2.2.2 ≤ res.2.2.2.2.2.2 := by
  have key : ∀ r : re_Res, a.2.2.2.1 ≤ (re_aft (re_nl G y') a r).2.2.2.1 ∧ a.2.2.2.2.1 ≤ (re_aft (re_nl G y') a r).2.2.2.2.1 ∧ a.2.2.2.2.2.1 + 1 ≤ (re_aft (re_nl G y') a r).2.2.2.2.2.1 ∧ 8 + (re_nl G y' + 11) + a.2.2.2.2.2.2 ≤ (re_aft (re_nl G y') a r).2.2.2.2.2.2 :=
    fun r => ⟨Nat.le_add_right _ _, Nat.le_add_right _ _, Nat.le_max_left _ _, Nat.le_max_left _ _⟩
  unfold re_aftc at h
  split at h
  · obtain ⟨r, -, rfl⟩ := Option.map_eq_some_iff.mp h
    exact key r
  · split at h
    · cases h
      exact key _
    · split at h
      · obtain ⟨r, -, rfl⟩ := Option.map_eq_some_iff.mp h
        exact key r
      · cases h
    · cases h
set_option maxHeartbeats 1000000 in
theorem re_all (hst : l.stackTraces = false) (hO : re_Ook V O.1) (hOA : re_Aok V O.2.1) (hSC : re_Sok V O.2.2.1) (hPM : re_Pok V O N G l D tys cA B0) (hG : re_ok N G) (hJD : re_okJ N G) (hE : ∀ j, j < re_nE G → tys[j]? = some (cA j, re_E N j)) : ∀ n : Nat, re_J V O N G l D tys cA B0 n := by
  intro n
  induction n with
  | zero =>
    intro y pc lv st h res hgo
    exact absurd hgo (by simp [re_go])
  | succ n ih =>
    intro y pc lv st h res hgo p e R s m args below meth c F H locs cells slots ls lc sc ad0 q ws hl rl rs hW hS mc ms hc1 hs1 hmc hms hfr hlo
    unfold re_go at hgo
    split at hgo
    next x hx9 => cases hgo; exact re_throw_ok hst hG F (nL := 0) (lc := lc) hx9 hl rs hW hS hc1 hs1 hmc hms hfr hlo
    next hx9 =>
    split at hgo
    next => cases hgo
    next ins hins =>
    obtain ⟨len, hdg, hlen⟩ := hG.1 _ _ _ hins
    obtain ⟨hx, hb, hml, hr, hown, hts, hlocks, hname, hexc, hAt⟩ := id F
    obtain ⟨hK, hZ1, hZ2, hSt, hB0, hAO, hTW, hX1, hX2, hX3⟩ := id hAt
    obtain ⟨o1, o2, o3, ⟨o4a, o4b, o4c, o4d, o4e⟩, o5, o6, o7, o8, o9, o10, o11, o12, o13, o14, o15⟩ := id hG
    have hBin : ∀ w ∈ re_B N, w.before args s = true := fun w hw => hts w (List.mem_cons_of_mem _ hw)
    split at hgo
    next q1 hq1 =>
      obtain ⟨pc1, lv1, st1⟩ := q1
      exact re_pure_ok hx hb hO hdg hlen hq1 hl rl rs (fun ls' lc' sc' hl' rl' rs' => ih _ _ _ _ _ _ hgo p e R s m args below meth c F H locs cells slots ls' lc' sc' ad0 q ws hl' rl' rs' hW hS mc ms hc1 hs1 hmc hms hfr hlo)
    next hq1 =>
    split at hgo
    next q2 hq2 =>
      obtain ⟨pc1, st1, h1⟩ := q2
      obtain ⟨rw0, hP, hD⟩ := id hW
      have hecc : ∀ j ci, re_ec G j ci = true → re_ecok s (re_cs N) (re_E N) j ci := fun j ci hj => by
        obtain ⟨r, k1, k2⟩ := o5 j ci hj
        refine ⟨r, k1, ?_⟩
        rcases k2 with k2 | ⟨nm, k2, k3⟩
        · exact Or.inl k2
        · exact Or.inr ⟨nm, k2, (hTW _ k3).2⟩
      have hfl : ∀ idx ci k ty fin, re_fl G y idx = some (ci, k, ty, fin) → re_flok s args (re_yn N y).cls (re_cs N) idx ci k ty fin := fun idx ci k ty fin hf => by
        obtain ⟨r, ref, k1, k2, k3, k3b, k4, k5, k6⟩ := o2 y idx ci k ty fin hf
        exact ⟨r, ref, k1, k2, hBin _ k3, k3b.elim (fun e9 x9 z9 => by rw [e9]; exact z9) (fun h9 x9 z9 => u_same (hBin _ h9) x9 z9), k4, k5, k6⟩
      have hcl : re_Cl (re_cs N) (re_ws N G y) := ⟨o3.1, fun ci r hc => ⟨fun w hw => List.mem_cons_of_mem _ ((o3.2 ci r hc).1 w hw), (o3.2 ci r hc).2⟩⟩
      exact re_hp_ok hx hb hts hown hK hP hD hS hcl hfl hE o4d o4a o4b o4c o4e hecc (fun hi => hname.trans (o6 y hi)) hdg hlen hq2 rs rw0
        (fun H1 locs1 ws' sc' hP1 hD1 hS1 rs1 rw1 => ih _ _ _ _ _ _ hgo p e R s m args below meth c F H1 locs1 cells slots ls lc sc' ad0 q ws' hl rl rs1 ⟨rw1, hP1, hD1⟩ hS1 mc ms hc1 hs1 hmc hms hfr hlo)
    next hq2 =>
    split at hgo
    next q3 hq3 =>
      cases hgo
      exact re_ret_ok F hdg hlen hq3 rs hW hS hc1 hs1
    next hq3 =>
    split at hgo
    next q4 hq4 =>
      obtain ⟨r, hr2, rfl⟩ := Option.map_eq_some_iff.mp hgo
      have hc2 : cells + (1 + r.2.2.2.1) ≤ mc := hc1
      have hs2 : slots + (q4.2.2.2.length + r.2.2.2.2.1) ≤ ms := hs1
      exact re_mk_ok hG hE F hdg hlen hq4 rs hW hS (by omega) (by omega) (fun a H1 ws' sc' hW1 hS1 rs1 =>
        ih _ _ _ _ _ _ hr2 p e R s m args below meth c F H1 locs _ _ ls lc sc' ad0 (q ++ [a]) ws' hl (by rw [← List.append_assoc]; exact re_rl_up [a] rl) (by rw [← List.append_assoc]; exact rs1) (by rw [← List.append_assoc]; exact hW1) hS1 mc ms (by omega) (by omega) hmc hms hfr hlo)
    next hq4 =>
    split at hgo
    next q5 hq5 =>
      exact re_cst_ok hG F hdg hlen hq5 (fun hv => ih _ _ _ _ _ _ hgo p e R s m args below meth c F H locs cells slots ls lc (q5.2 :: sc) ad0 q ws hl rl ⟨hv _ _, rs⟩ hW hS mc ms hc1 hs1 hmc hms hfr hlo)
    next hq5 =>
    split at hgo
    next q6 hq6 =>
      refine re_acm_ok (V := V) hx hb (fun i j a h1 h2 => ?_) hdg hlen hq6 rs (fun sc' rs1 => ih _ _ _ _ _ _ hgo p e R s m args below meth c F H locs cells slots ls lc sc' ad0 q ws hl rl rs1 hW hS mc ms hc1 hs1 hmc hms hfr hlo)
      obtain ⟨⟨w1, w2, w3, w4, g⟩, -, hD⟩ := id hW
      obtain ⟨e1, g1⟩ := g i a h1
      obtain ⟨e2, g2⟩ := g j a h2
      exact hD.1 i j _ _ g1 g2 rfl
    next hq6 =>
    split at hgo
    next q7 hq7 =>
      exact re_ora_ok (V := V) hx hb hOA hdg hlen hq7 rs (fun sc' rs1 => ih _ _ _ _ _ _ hgo p e R s m args below meth c F H locs cells slots ls lc sc' ad0 q ws hl rl rs1 hW hS mc ms hc1 hs1 hmc hms hfr hlo)
    next hq7 =>
    split at hgo
    next q8 hq8 =>
      exact re_scr_ok (V := V) hx hb hSC hX1 (Nat.lt_of_lt_of_le hX2 hB0) (by show ¬ B0 ≤ V.1 2; omega) hS hdg hlen hq8 rs (fun sc' rs1 => ih _ _ _ _ _ _ hgo p e R s m args below meth c F H locs cells slots ls lc sc' ad0 q ws hl rl rs1 hW hS mc ms hc1 hs1 hmc hms hfr hlo)
    next hq8 =>
    split at hgo
    next q9 hq9 =>
      obtain ⟨r, hr2, rfl⟩ := Option.map_eq_some_iff.mp hgo
      have hc2 : cells + r.2.2.2.1 ≤ mc := hc1
      have hs2 : slots + r.2.2.2.2.1 ≤ ms := hs1
      have hf2 : max q9.2.2.1 r.2.2.2.2.2.1 ≤ R.frames := hfr
      have hl2 : max q9.2.2.2 r.2.2.2.2.2.2 ≤ R.locals := hlo
      exact re_jdk_ok hG hJD F hl hdg hlen hq9 rs (by omega) (by omega) (by omega) (by omega) (fun sc' rs1 => ih _ _ _ _ _ _ hr2 p e R s m args below meth c F H locs cells slots ls lc sc' ad0 q ws hl rl rs1 hW hS mc ms (by omega) (by omega) hmc hms (by omega) (by omega))
    next hq9 =>
    split at hgo
    next => cases hgo
    next k y' na hinv =>
    have hrl := re_rs_take na rs
    have hsc : sc = (sc.take na).reverse.reverse ++ sc.drop na := by rw [List.reverse_reverse, List.take_append_drop]
    have hlenA : (st.take na).length = na → (sc.take na).reverse.length = na := fun hz => by rw [List.length_reverse, re_rs_len hrl.1]; exact hz
    split at hgo
    next hk3 =>
      subst hk3
      rcases re_inv_ok hinv with ⟨idx, rfl, hk, hci⟩ | ⟨idx, rfl, hk, hci⟩ | ⟨idx, rfl, hk, hci⟩
      · omega
      · omega
      · have hdg' : decode (re_yb N y) pc = .ok (.invokespecial idx, 3) := hlen.elim (fun q => absurd q (by simp [re_len])) (fun q => by rw [hdg, q]; rfl)
        split at hgo
        next i r =>
          split at hgo
          next hcat =>
            obtain ⟨a, sr, rfl, ha, rs1⟩ := re_rs_r rs
            obtain ⟨rr, hr2, rfl⟩ := Option.map_eq_some_iff.mp hgo
            obtain ⟨w1, w2, w3⟩ := (o7 _ _ _ _ _ hci).1 rfl
            have hf2 : max 1 rr.2.2.2.2.2.1 ≤ R.frames := hfr
            have hl2 : max 20 rr.2.2.2.2.2.2 ≤ R.locals := hlo
            have hcc := re_cat_c rs1
            refine W.objInit hx hb hown (hBin _ w1) (hBin _ w2) (hBin _ w3) rfl (by rw [hml]; exact hl.1) rfl hdg' (by omega) (?_) ?_
            · show 2 * 0 + re_cat sr + 12 ≤ R.locals
              omega
            · exact ih _ _ _ _ _ _ hr2 p e R s m args below meth c F H locs cells slots ls lc sr ad0 q ws hl rl rs1 hW hS mc ms hc1 hs1 hmc hms (by omega) (by omega)
          next => cases hgo
        next => cases hgo
    next hk3 =>
    have hU9 : ∀ (asC : List Value) (U : State), U.heap = H → s.WarmedH U.vm → re_Pc V N D tys cA B0 asC (ad0 ++ q) h ws asC.toArray U := fun asC U hU hW9 => ⟨rfl, re_K_moved hAt hS hU hW9, by rw [hU]; exact hW⟩
    have hnest : ∀ {idx : Nat}, (∃ z, Cond.methodLinkNest (re_yn N y).cls idx (re_yn N y') z ∈ re_TW N) → ∃ z, va_Nw (Cond.methodLinkNest (re_yn N y).cls idx (re_yn N y') z) s := fun ⟨z, hz⟩ => ⟨z, (hTW _ hz).2⟩
    have hwe : re_hh G y' = [] → re_ws N G y' = Cond.code (re_yn N y') (re_yb N y') (re_nl G y') (re_rt G y') :: re_B N := fun z => by unfold re_ws re_cw; rw [z]
    rcases re_inv_ok hinv with ⟨idx, rfl, hk, hci⟩ | ⟨idx, rfl, hk, hci⟩ | ⟨idx, rfl, hk, hci⟩
    · -- a static method
      have hdg' : decode (re_yb N y) pc = .ok (.invokestatic idx, 3) := hlen.elim (fun q => absurd q (by simp [re_len])) (fun q => by rw [hdg, q]; rfl)
      obtain ⟨-, c2, c3, c4, c5, c6, c7, c8, c9, c10⟩ := o7 _ _ _ _ _ hci
      rw [if_pos hk] at hgo
      split at hgo
      next hcond =>
        obtain ⟨hcat, hna, hnl⟩ := hcond
        split at hgo
        next => cases hgo
        next a ha =>
          have hM := c2 hk3
          have hle := re_res_le hgo
          have hroom : 2 * (F0 m pc ls sc).monitorRoom + ((sc.drop na).map fun v => v.category).sum ≤ 8 := lv_room (by have := re_cat_c hrl.2; unfold re_cat at this hcat; omega)
          refine re_call_ok ih hG F (a := a) (st0 := sc) (restC := sc.drop na) (rest := st.drop na) (ar := (sc.take na).reverse.toArray) ?_ hl rl hrl.2 hS hgo hc1 hs1 hmc hms hfr hlo
          have hMet : vx_Met l (re_yn N y') (re_ws N G y') ({ frames := a.2.2.2.2.2.1, cells := a.2.2.2.1, slots := a.2.2.2.2.1, locals := a.2.2.2.2.2.2 }) (re_Pc V N D tys cA B0 (sc.take na).reverse (ad0 ++ q) h ws) (re_Q V N D cA B0 (ad0 ++ q) a.1 a.2.1 a.2.2.1) (re_XQ V N D cA B0 (ad0 ++ q) a.1 a.2.2.1) a.2.2.2.1 a.2.2.2.2.1 (fun q => B0 ≤ q) := by
            split at ha
            next a9 hpm => cases ha; exact hPM _ _ _ _ hpm _ ws _ (re_rs_rev hrl.1)
            next => exact re_met ih hM.2.2.1 ha (ad := ad0 ++ q) (ws := ws) (re_rs_rev hrl.1) hnl
          rcases hk with hk | hk | hk
          · exact vx_runS (As := (sc.take na).reverse) (rest := sc.drop na) ⟨hx, hb, hml, hown, hts⟩ hMet ⟨callB_of na hts (re_good hG hM) (hwe (c9 hk3 (by omega))) rfl rfl (hBin _ hM.2.1) (hBin _ (c3 (Or.inl hk))) hM.2.2.2 (by dsimp only; omega), hBin _ (c5 (Or.inl hk))⟩ ⟨re_blind, fun U hU hW9 => hU9 _ U hU hW9⟩ rfl (hlenA hna) hl.1 hsc hroom hdg' (by omega)
          · obtain ⟨z, hz⟩ := hnest (c4 (Or.inl hk))
            exact vx_runSN (As := (sc.take na).reverse) (rest := sc.drop na) ⟨hx, hb, hml, hown, hts⟩ hMet ⟨va_cnB na hts (re_good hG hM) (hwe (c9 hk3 (by omega))) rfl rfl hz (hBin _ hM.2.1) hM.2.2.2 (by dsimp only; omega), hBin _ (c5 (Or.inr (Or.inl hk))), trivial⟩ ⟨re_blind, fun U hU hW9 => hU9 _ U hU hW9⟩ rfl (hlenA hna) hl.1 hsc hroom hdg' (by omega)
          · have hcwe : re_cw N G y' = Cond.codeWith (re_yn N y') (re_yb N y') (re_nl G y') (re_rt G y') (re_hh G y') := by
              unfold re_cw
              split
              next z9 => exact absurd z9 (c10 hk)
              next => rfl
            have hcin : Cond.codeWith (re_yn N y') (re_yb N y') (re_nl G y') (re_rt G y') (re_hh G y') ∈ re_ws N G y' := by unfold re_ws; rw [hcwe]; exact List.mem_cons_self
            exact vx_runSX (hh := re_hh G y') (As := (sc.take na).reverse) (rest := sc.drop na) ⟨hx, hb, hml, hown, hts⟩ hMet ⟨⟨rfl, rfl, by dsimp only; omega, by dsimp only; omega, pay_in hts (re_good hG hM), hcin⟩, hts _ ((re_good hG hM) _ hcin).1, hBin _ hM.2.1, ⟨hM.2.2.2.1, hM.2.2.2.2.1⟩, fun sig h9 => by
              have h2 := hM.2.2.2.2.2
              rw [h9] at h2
              exact (Option.some.inj h2).symm, hBin _ (c3 (Or.inr (Or.inr (Or.inr hk)))), hBin _ (c5 (Or.inr (Or.inr hk)))⟩ ⟨re_blind, fun U hU hW9 => hU9 _ U hU hW9⟩ rfl (hlenA hna) hl.1 hsc hroom hdg' (by omega)
      next => cases hgo
    · -- a method of an object
      have hdg' : decode (re_yb N y) pc = .ok (.invokevirtual idx, 3) := hlen.elim (fun q => absurd q (by simp [re_len])) (fun q => by rw [hdg, q]; rfl)
      obtain ⟨-, c2, c3, c4, c5, c6, c7, c8, c9, c10⟩ := o7 _ _ _ _ _ hci
      rw [if_neg (by omega)] at hgo
      split at hgo
      next i r hdr =>
        split at hgo
        next hcond =>
          obtain ⟨hcat, hna, hnl⟩ := hcond
          split at hgo
          next t vs hi =>
            split at hgo
            next htag =>
              split at hgo
              next => cases hgo
              next a ha =>
                have hM := c2 hk3
                have hle := re_res_le hgo
                have hrd := hrl.2
                rw [hdr] at hrd
                obtain ⟨b, rC, hdc, hb9, rs1⟩ := re_rs_r hrd
                have hsc2 : sc = (sc.take na).reverse.reverse ++ .ref b :: rC := by rw [← hdc]; exact hsc
                have hroom : 2 * (F0 m pc ls sc).monitorRoom + (rC.map fun v => v.category).sum ≤ 8 := lv_room (by have := re_cat_c rs1; unfold re_cat at this hcat; omega)
                refine re_call_ok ih hG F (a := a) (st0 := sc) (restC := rC) (rest := r) (ar := (.ref b :: (sc.take na).reverse).toArray) ?_ hl rl rs1 hS hgo hc1 hs1 hmc hms hfr hlo
                have hMet : vx_Met l (re_yn N y') (re_ws N G y') ({ frames := a.2.2.2.2.2.1, cells := a.2.2.2.1, slots := a.2.2.2.2.1, locals := a.2.2.2.2.2.2 }) (re_Pc V N D tys cA B0 (.ref b :: (sc.take na).reverse) (ad0 ++ q) h ws) (re_Q V N D cA B0 (ad0 ++ q) a.1 a.2.1 a.2.2.1) (re_XQ V N D cA B0 (ad0 ++ q) a.1 a.2.2.1) a.2.2.2.1 a.2.2.2.2.1 (fun q => B0 ≤ q) := by
                  split at ha
                  next a9 hpm => cases ha; exact hPM _ _ _ _ hpm _ ws _ ⟨⟨b, hb9, rfl⟩, re_rs_rev hrl.1⟩
                  next => exact re_met ih hM.2.2.1 ha (ad := ad0 ++ q) (ws := ws) (asC := .ref b :: (sc.take na).reverse) ⟨⟨b, hb9, rfl⟩, re_rs_rev hrl.1⟩ hnl
                obtain ⟨hsel, rr, hrr, hrn⟩ := c7 hk
                obtain ⟨b2, e9, k1, k2, k3⟩ := hW.1.2.2.1 i _ hi
                cases hb9.symm.trans k1
                subst htag
                obtain ⟨fs, rfl, -⟩ := re_rE_obj k3 (re_cl_lt o3 hrr)
                have hrecv := va_recv hK hW.2.1 hrr k2
                rw [hrn] at hrecv
                rcases hk with hk | hk
                · exact vx_runV (As := (sc.take na).reverse) (rest := rC) ⟨hx, hb, hml, hown, hts⟩ hMet ⟨callB_of na hts (re_good hG hM) (hwe (c9 hk3 (by omega))) rfl rfl (hBin _ hM.2.1) (hBin _ (c3 (Or.inr (Or.inl hk)))) hM.2.2.2 (by dsimp only; omega), hBin _ (c6 (Or.inl hk)), hBin _ hsel⟩ ⟨re_blind, hrecv, fun U hU hW9 => hU9 _ U hU hW9⟩ rfl (hlenA hna) hl.1 hsc2 hroom hdg' (by omega)
                · obtain ⟨z, hz⟩ := hnest (c4 (Or.inr (Or.inl hk)))
                  exact vx_runVN (As := (sc.take na).reverse) (rest := rC) ⟨hx, hb, hml, hown, hts⟩ hMet ⟨va_cnB na hts (re_good hG hM) (hwe (c9 hk3 (by omega))) rfl rfl hz (hBin _ hM.2.1) hM.2.2.2 (by dsimp only; omega), hBin _ (c6 (Or.inr (Or.inr (Or.inl hk)))), hBin _ hsel⟩ ⟨re_blind, hrecv, fun U hU hW9 => hU9 _ U hU hW9⟩ rfl (hlenA hna) hl.1 hsc2 hroom hdg' (by omega)
            next => cases hgo
          next => cases hgo
        next => cases hgo
      next => cases hgo
    · -- a constructor
      have hdg' : decode (re_yb N y) pc = .ok (.invokespecial idx, 3) := hlen.elim (fun q => absurd q (by simp [re_len])) (fun q => by rw [hdg, q]; rfl)
      obtain ⟨-, c2, c3, c4, c5, c6, c7, c8, c9, c10⟩ := o7 _ _ _ _ _ hci
      have hk : k = 2 ∨ k = 6 := by omega
      rw [if_neg (by omega)] at hgo
      split at hgo
      next i r hdr =>
        split at hgo
        next hcond =>
          obtain ⟨hcat, hna, hnl⟩ := hcond
          split at hgo
          next t vs hi =>
            split at hgo
            next htag =>
              split at hgo
              next => cases hgo
              next a ha =>
                have hM := c2 hk3
                have hle := re_res_le hgo
                have hrd := hrl.2
                rw [hdr] at hrd
                obtain ⟨b, rC, hdc, hb9, rs1⟩ := re_rs_r hrd
                have hsc2 : sc = (sc.take na).reverse.reverse ++ .ref b :: rC := by rw [← hdc]; exact hsc
                have hroom : 2 * (F0 m pc ls sc).monitorRoom + (rC.map fun v => v.category).sum ≤ 8 := lv_room (by have := re_cat_c rs1; unfold re_cat at this hcat; omega)
                refine re_call_ok ih hG F (a := a) (st0 := sc) (restC := rC) (rest := r) (ar := (.ref b :: (sc.take na).reverse).toArray) ?_ hl rl rs1 hS hgo hc1 hs1 hmc hms hfr hlo
                have hMet : vx_Met l (re_yn N y') (re_ws N G y') ({ frames := a.2.2.2.2.2.1, cells := a.2.2.2.1, slots := a.2.2.2.2.1, locals := a.2.2.2.2.2.2 }) (re_Pc V N D tys cA B0 (.ref b :: (sc.take na).reverse) (ad0 ++ q) h ws) (re_Q V N D cA B0 (ad0 ++ q) a.1 a.2.1 a.2.2.1) (re_XQ V N D cA B0 (ad0 ++ q) a.1 a.2.2.1) a.2.2.2.1 a.2.2.2.2.1 (fun q => B0 ≤ q) := by
                  split at ha
                  next a9 hpm => cases ha; exact hPM _ _ _ _ hpm _ ws _ ⟨⟨b, hb9, rfl⟩, re_rs_rev hrl.1⟩
                  next => exact re_met ih hM.2.2.1 ha (ad := ad0 ++ q) (ws := ws) (asC := .ref b :: (sc.take na).reverse) ⟨⟨b, hb9, rfl⟩, re_rs_rev hrl.1⟩ hnl
                obtain ⟨hin, hrt⟩ := c8 hk
                have hwe2 : re_ws N G y' = Cond.code (re_yn N y') (re_yb N y') (re_nl G y') none :: re_B N := by rw [hwe (c9 hk3 (by omega)), hrt]
                rcases hk with hk | hk
                · exact vx_runI (As := (sc.take na).reverse) (rest := rC) ⟨hx, hb, hml, hown, hts⟩ hMet ⟨callB_of na hts (re_good hG hM) hwe2 rfl rfl (hBin _ hM.2.1) (hBin _ (c3 (Or.inr (Or.inr (Or.inl hk))))) hM.2.2.2 (by dsimp only; omega), hin, hBin _ (c6 (Or.inr (Or.inl hk)))⟩ ⟨re_blind, fun U hU hW9 => hU9 _ U hU hW9⟩ rfl (hlenA hna) hl.1 hsc2 hroom hdg' (by omega)
                · obtain ⟨z, hz⟩ := hnest (c4 (Or.inr (Or.inr hk)))
                  exact vx_runIN (As := (sc.take na).reverse) (rest := rC) ⟨hx, hb, hml, hown, hts⟩ hMet ⟨va_cnB na hts (re_good hG hM) hwe2 rfl rfl hz (hBin _ hM.2.1) hM.2.2.2 (by dsimp only; omega), hin, hBin _ (c6 (Or.inr (Or.inr (Or.inr hk))))⟩ ⟨re_blind, fun U hU hW9 => hU9 _ U hU hW9⟩ rfl (hlenA hna) hl.1 hsc2 hroom hdg' (by omega)
            next => cases hgo
          next => cases hgo
        next => cases hgo
      next => cases hgo
end REA
end
section
def rFl0 : Nat → Option (Nat × Nat × FieldType × Nat) := (re_br 132 (re_br 60 (re_br 27 (re_br 18 (re_lf 11 (some (0, 0, .array (.object "Cellbrook$Expr"), 1))) (re_lf 18 (some (0, 2, .object "Cellbrook$Version", 1)))) (re_br 34 (re_lf 27 (some (0, 4, .object "Cellbrook$Links", 1))) (re_br 56 (re_lf 34 (some (0, 5, .object "Cellbrook$Resources", 1))) (re_lf 56 (some (0, 6, .object "Cellbrook$Sheet", 1)))))) (re_br 102 (re_br 63 (re_lf 60 (some (0, 7, .object "Cellbrook$Sheet", 1))) (re_br 67 (re_lf 63 (some (0, 9, .array (.object "Cellbrook$Version"), 1))) (re_lf 67 (some (0, 8, .int, 0))))) (re_br 110 (re_lf 102 (some (0, 3, .int, 0))) (re_br 128 (re_lf 110 (some (1, 0, .array .boolean, 2))) (re_lf 128 (some (1, 1, .array (.object "Cellbrook$Code"), 2))))))) (re_br 196 (re_br 176 (re_br 142 (re_lf 132 (some (0, 1, .int, 0))) (re_lf 142 (some (2, 0, .int, 0)))) (re_br 184 (re_lf 176 (some (3, 1, .array .int, 2))) (re_br 188 (re_lf 184 (some (4, 0, .array .long, 2))) (re_lf 188 (some (4, 1, .int, 0)))))) (re_br 248 (re_br 199 (re_lf 196 (some (3, 5, .array .int, 2))) (re_br 228 (re_lf 199 (some (0, 10, .int, 0))) (re_lf 228 (some (5, 0, .int, 0))))) (re_br 251 (re_lf 248 (some (3, 3, .array .int, 2))) (re_br 266 (re_lf 251 (some (5, 1, .int, 0))) (re_lf 266 (some (9, 6, .int, 2))))))))
def rFl1 : Nat → Option (Nat × Nat × FieldType × Nat) := (re_br 17 (re_lf 9 (some (1, 0, .array .boolean, 1))) (re_lf 17 (some (1, 1, .array (.object "Cellbrook$Code"), 1))))
def rFl2 : Nat → Option (Nat × Nat × FieldType × Nat) := (re_br 33 (re_br 17 (re_lf 9 (some (2, 1, .array .int, 1))) (re_br 21 (re_lf 17 (some (2, 2, .array (.object "Cellbrook$Expr"), 1))) (re_lf 21 (some (2, 0, .int, 0))))) (re_br 43 (re_br 40 (re_lf 33 (some (9, 7, .int, 2))) (re_lf 40 (some (9, 8, .int, 2)))) (re_br 46 (re_lf 43 (some (9, 9, .int, 2))) (re_lf 46 (some (9, 10, .boolean, 2))))))
def rFl3 : Nat → Option (Nat × Nat × FieldType × Nat) := (re_br 27 (re_br 18 (re_br 15 (re_lf 9 (some (3, 1, .array .int, 1))) (re_lf 15 (some (3, 2, .array .int, 1)))) (re_br 21 (re_lf 18 (some (3, 3, .array .int, 1))) (re_br 24 (re_lf 21 (some (3, 4, .array .int, 1))) (re_lf 24 (some (3, 5, .array .int, 1)))))) (re_br 47 (re_br 30 (re_lf 27 (some (3, 6, .array .int, 1))) (re_lf 30 (some (3, 0, .object "Cellbrook$Version", 1)))) (re_br 53 (re_lf 47 (some (1, 1, .array (.object "Cellbrook$Code"), 2))) (re_br 59 (re_lf 53 (some (2, 0, .int, 0))) (re_lf 59 (some (2, 1, .array .int, 2)))))))
def rFl4 : Nat → Option (Nat × Nat × FieldType × Nat) := (re_lf 9 (some (4, 0, .array .long, 1)))
def rFl5 : Nat → Option (Nat × Nat × FieldType × Nat) := (re_br 42 (re_br 25 (re_br 15 (re_lf 9 (some (5, 0, .int, 0))) (re_br 19 (re_lf 15 (some (5, 3, .array .int, 1))) (re_lf 19 (some (5, 4, .array .long, 1))))) (re_br 36 (re_br 32 (re_lf 25 (some (5, 5, .array (.object "Cellbrook$Node"), 1))) (re_lf 32 (some (5, 6, .object "Cellbrook$Code", 1)))) (re_br 39 (re_lf 36 (some (5, 7, .array .long, 1))) (re_lf 39 (some (5, 9, .array .int, 1)))))) (re_br 61 (re_br 45 (re_lf 42 (some (5, 10, .array .long, 1))) (re_br 54 (re_lf 45 (some (5, 1, .int, 0))) (re_lf 54 (some (5, 2, .int, 0))))) (re_br 67 (re_br 66 (re_lf 61 (some (4, 1, .int, 0))) (re_lf 66 (some (5, 8, .int, 0)))) (re_br 84 (re_lf 67 (some (4, 0, .array .long, 2))) (re_lf 84 (some (10, 2, .long, 0)))))))
def rFl6 : Nat → Option (Nat × Nat × FieldType × Nat) := (re_br 38 (re_br 25 (re_br 15 (re_lf 9 (some (6, 0, .array (.object "Cellbrook$Result"), 1))) (re_br 22 (re_lf 15 (some (6, 2, .object "Cellbrook$Node", 0))) (re_lf 22 (some (6, 1, .object "Cellbrook$Node", 0))))) (re_br 31 (re_br 28 (re_lf 25 (some (10, 6, .object "Cellbrook$Node", 0))) (re_lf 28 (some (10, 7, .object "Cellbrook$Node", 0)))) (re_br 35 (re_lf 31 (some (6, 4, .int, 0))) (re_lf 35 (some (10, 1, .int, 0)))))) (re_br 51 (re_br 45 (re_br 42 (re_lf 38 (some (10, 2, .long, 0))) (re_lf 42 (some (10, 3, .object "Cellbrook$Node", 0)))) (re_br 48 (re_lf 45 (some (10, 4, .object "Cellbrook$Node", 0))) (re_lf 48 (some (6, 5, .int, 0))))) (re_br 68 (re_br 62 (re_lf 51 (some (5, 5, .array (.object "Cellbrook$Node"), 2))) (re_lf 62 (some (6, 3, .object "Cellbrook$Node", 0)))) (re_br 72 (re_lf 68 (some (10, 5, .boolean, 0))) (re_lf 72 (some (10, 0, .object "Cellbrook$Expr", 0)))))))
def rFl7 : Nat → Option (Nat × Nat × FieldType × Nat) := (re_br 83 (re_br 38 (re_br 27 (re_br 19 (re_lf 13 (some (7, 2, .array (.object "Cellbrook$Expr"), 1))) (re_br 23 (re_lf 19 (some (7, 3, .array (.object "Cellbrook$Node"), 1))) (re_lf 23 (some (7, 4, .array .boolean, 1))))) (re_br 31 (re_lf 27 (some (7, 6, .array .long, 1))) (re_br 34 (re_lf 31 (some (7, 7, .array (.object "Cellbrook$Node"), 1))) (re_lf 34 (some (7, 0, .object "Cellbrook$Store", 1)))))) (re_br 54 (re_br 47 (re_lf 38 (some (7, 1, .object "Cellbrook$Resources", 1))) (re_br 51 (re_lf 47 (some (7, 9, .int, 0))) (re_lf 51 (some (7, 10, .int, 0))))) (re_br 65 (re_br 57 (re_lf 54 (some (7, 11, .int, 0))) (re_lf 57 (some (7, 12, .object "Cellbrook$Node", 0)))) (re_br 68 (re_lf 65 (some (7, 5, .int, 0))) (re_lf 68 (some (7, 8, .int, 0))))))) (re_br 119 (re_br 101 (re_br 86 (re_lf 83 (some (9, 0, .int, 2))) (re_br 94 (re_lf 86 (some (9, 2, .long, 2))) (re_lf 94 (some (9, 1, .int, 2))))) (re_br 113 (re_br 109 (re_lf 101 (some (4, 0, .array .long, 2))) (re_lf 109 (some (9, 4, .object "Cellbrook$Expr", 2)))) (re_br 116 (re_lf 113 (some (9, 3, .object "Cellbrook$Expr", 2))) (re_lf 116 (some (10, 1, .int, 0)))))) (re_br 126 (re_br 120 (re_lf 119 (some (10, 2, .long, 0))) (re_br 123 (re_lf 120 (some (10, 3, .object "Cellbrook$Node", 0))) (re_lf 123 (some (10, 4, .object "Cellbrook$Node", 0))))) (re_br 157 (re_br 129 (re_lf 126 (some (7, 13, .long, 0))) (re_lf 129 (some (10, 0, .object "Cellbrook$Expr", 0)))) (re_br 162 (re_lf 157 (some (4, 1, .int, 0))) (re_lf 162 (some (9, 5, .object "Cellbrook$Expr", 2))))))))
def rFl8 : Nat → Option (Nat × Nat × FieldType × Nat) := (re_br 63 (re_br 23 (re_br 15 (re_lf 9 (some (8, 0, .object "Cellbrook$Version", 1))) (re_br 19 (re_lf 15 (some (8, 1, .object "Cellbrook$Links", 1))) (re_lf 19 (some (8, 2, .object "Cellbrook$Machine", 1))))) (re_br 46 (re_br 27 (re_lf 23 (some (8, 3, .array (.object "Cellbrook$Result"), 1))) (re_lf 27 (some (8, 4, .int, 1)))) (re_br 52 (re_lf 46 (some (3, 6, .array .int, 2))) (re_lf 52 (some (3, 4, .array .int, 2)))))) (re_br 112 (re_br 70 (re_br 66 (re_lf 63 (some (5, 0, .int, 0))) (re_lf 66 (some (1, 1, .array (.object "Cellbrook$Code"), 2)))) (re_br 80 (re_lf 70 (some (7, 1, .object "Cellbrook$Resources", 2))) (re_lf 80 (some (3, 3, .array .int, 2))))) (re_br 125 (re_br 117 (re_lf 112 (some (2, 0, .int, 0))) (re_lf 117 (some (2, 2, .array (.object "Cellbrook$Expr"), 2)))) (re_br 158 (re_lf 125 (some (2, 1, .array .int, 2))) (re_lf 158 (some (3, 2, .array .int, 2)))))))
def rFl9 : Nat → Option (Nat × Nat × FieldType × Nat) := fun _ => none
def rFl10 : Nat → Option (Nat × Nat × FieldType × Nat) := (re_br 27 (re_br 16 (re_br 13 (re_lf 7 (some (9, 0, .int, 1))) (re_lf 13 (some (9, 1, .int, 1)))) (re_br 20 (re_lf 16 (some (9, 2, .long, 1))) (re_br 24 (re_lf 20 (some (9, 3, .object "Cellbrook$Expr", 1))) (re_lf 24 (some (9, 4, .object "Cellbrook$Expr", 1)))))) (re_br 36 (re_br 30 (re_lf 27 (some (9, 5, .object "Cellbrook$Expr", 1))) (re_br 33 (re_lf 30 (some (9, 6, .int, 1))) (re_lf 33 (some (9, 7, .int, 1))))) (re_br 39 (re_lf 36 (some (9, 8, .int, 1))) (re_br 42 (re_lf 39 (some (9, 9, .int, 1))) (re_lf 42 (some (9, 10, .boolean, 1)))))))
def rFl11 : Nat → Option (Nat × Nat × FieldType × Nat) := fun _ => none
def rFl12 : Nat → Option (Nat × Nat × FieldType × Nat) := fun _ => none
def rFl (c i : Nat) : Option (Nat × Nat × FieldType × Nat) := bif Nat.blt c 22 && Nat.blt i 320 then ((re_br 5 (re_br 2 (re_br 1 (re_lf 0 (some rFl0)) (re_lf 1 (some rFl1))) (re_br 3 (re_lf 2 (some rFl2)) (re_br 4 (re_lf 3 (some rFl3)) (re_lf 4 (some rFl4))))) (re_br 7 (re_br 6 (re_lf 5 (some rFl5)) (re_lf 6 (some rFl6))) (re_br 8 (re_lf 7 (some rFl7)) (re_br 10 (re_lf 8 (some rFl8)) (re_lf 10 (some rFl10)))))) c).getD (fun _ => none) i else none
def rFw0 : Nat → Option (Nat × Nat × String) := (re_br 132 (re_br 60 (re_br 27 (re_br 18 (re_lf 11 (some (310, 0, "Cellbrook"))) (re_lf 18 (some (312, 0, "Cellbrook")))) (re_br 34 (re_lf 27 (some (314, 0, "Cellbrook"))) (re_br 56 (re_lf 34 (some (315, 0, "Cellbrook"))) (re_lf 56 (some (316, 0, "Cellbrook")))))) (re_br 102 (re_br 63 (re_lf 60 (some (317, 0, "Cellbrook"))) (re_br 67 (re_lf 63 (some (319, 0, "Cellbrook"))) (re_lf 67 (some (318, 0, "Cellbrook"))))) (re_br 110 (re_lf 102 (some (313, 0, "Cellbrook"))) (re_br 128 (re_lf 110 (some (97, 0, "Cellbrook$Version"))) (re_lf 128 (some (101, 0, "Cellbrook$Version"))))))) (re_br 196 (re_br 176 (re_br 142 (re_lf 132 (some (311, 0, "Cellbrook"))) (re_lf 142 (some (81, 0, "Cellbrook$Code")))) (re_br 184 (re_lf 176 (some (115, 0, "Cellbrook$Links"))) (re_br 188 (re_lf 184 (some (151, 0, "Cellbrook$Resources"))) (re_lf 188 (some (154, 0, "Cellbrook$Resources")))))) (re_br 248 (re_br 199 (re_lf 196 (some (124, 0, "Cellbrook$Links"))) (re_br 228 (re_lf 199 (some (320, 0, "Cellbrook"))) (re_lf 228 (some (174, 0, "Cellbrook$Result"))))) (re_br 251 (re_lf 248 (some (120, 0, "Cellbrook$Links"))) (re_br 266 (re_lf 251 (some (176, 0, "Cellbrook$Result"))) (re_lf 266 (some (459, 0, "Cellbrook$Expr"))))))))
def rFw1 : Nat → Option (Nat × Nat × String) := (re_br 17 (re_lf 9 (some (96, 0, "Cellbrook$Version"))) (re_lf 17 (some (98, 0, "Cellbrook$Version"))))
def rFw2 : Nat → Option (Nat × Nat × String) := (re_br 33 (re_br 17 (re_lf 9 (some (82, 0, "Cellbrook$Code"))) (re_br 21 (re_lf 17 (some (85, 0, "Cellbrook$Code"))) (re_lf 21 (some (78, 0, "Cellbrook$Code"))))) (re_br 43 (re_br 40 (re_lf 33 (some (461, 0, "Cellbrook$Expr"))) (re_lf 40 (some (463, 0, "Cellbrook$Expr")))) (re_br 46 (re_lf 43 (some (465, 0, "Cellbrook$Expr"))) (re_lf 46 (some (467, 0, "Cellbrook$Expr"))))))
def rFw3 : Nat → Option (Nat × Nat × String) := (re_br 27 (re_br 18 (re_br 15 (re_lf 9 (some (114, 0, "Cellbrook$Links"))) (re_lf 15 (some (116, 0, "Cellbrook$Links")))) (re_br 21 (re_lf 18 (some (118, 0, "Cellbrook$Links"))) (re_br 24 (re_lf 21 (some (121, 0, "Cellbrook$Links"))) (re_lf 24 (some (123, 0, "Cellbrook$Links")))))) (re_br 47 (re_br 30 (re_lf 27 (some (125, 0, "Cellbrook$Links"))) (re_lf 30 (some (113, 0, "Cellbrook$Links")))) (re_br 53 (re_lf 47 (some (99, 0, "Cellbrook$Version"))) (re_br 59 (re_lf 53 (some (79, 0, "Cellbrook$Code"))) (re_lf 59 (some (83, 0, "Cellbrook$Code")))))))
def rFw4 : Nat → Option (Nat × Nat × String) := (re_lf 9 (some (148, 0, "Cellbrook$Resources")))
def rFw5 : Nat → Option (Nat × Nat × String) := (re_br 42 (re_br 25 (re_br 15 (re_lf 9 (some (172, 0, "Cellbrook$Result"))) (re_br 19 (re_lf 15 (some (178, 0, "Cellbrook$Result"))) (re_lf 19 (some (179, 0, "Cellbrook$Result"))))) (re_br 36 (re_br 32 (re_lf 25 (some (180, 0, "Cellbrook$Result"))) (re_lf 32 (some (182, 0, "Cellbrook$Result")))) (re_br 39 (re_lf 36 (some (183, 0, "Cellbrook$Result"))) (re_lf 39 (some (185, 0, "Cellbrook$Result")))))) (re_br 61 (re_br 45 (re_lf 42 (some (186, 0, "Cellbrook$Result"))) (re_br 54 (re_lf 45 (some (175, 0, "Cellbrook$Result"))) (re_lf 54 (some (177, 0, "Cellbrook$Result"))))) (re_br 67 (re_br 66 (re_lf 61 (some (152, 0, "Cellbrook$Resources"))) (re_lf 66 (some (184, 0, "Cellbrook$Result")))) (re_br 84 (re_lf 67 (some (149, 0, "Cellbrook$Resources"))) (re_lf 84 (some (748, 0, "Cellbrook$Node")))))))
def rFw6 : Nat → Option (Nat × Nat × String) := (re_br 38 (re_br 25 (re_br 15 (re_lf 9 (some (216, 0, "Cellbrook$Store"))) (re_br 22 (re_lf 15 (some (218, 0, "Cellbrook$Store"))) (re_lf 22 (some (217, 0, "Cellbrook$Store"))))) (re_br 31 (re_br 28 (re_lf 25 (some (754, 0, "Cellbrook$Node"))) (re_lf 28 (some (755, 0, "Cellbrook$Node")))) (re_br 35 (re_lf 31 (some (220, 0, "Cellbrook$Store"))) (re_lf 35 (some (744, 0, "Cellbrook$Node")))))) (re_br 51 (re_br 45 (re_br 42 (re_lf 38 (some (746, 0, "Cellbrook$Node"))) (re_lf 42 (some (749, 0, "Cellbrook$Node")))) (re_br 48 (re_lf 45 (some (751, 0, "Cellbrook$Node"))) (re_lf 48 (some (221, 0, "Cellbrook$Store"))))) (re_br 68 (re_br 62 (re_lf 51 (some (181, 0, "Cellbrook$Result"))) (re_lf 62 (some (219, 0, "Cellbrook$Store")))) (re_br 72 (re_lf 68 (some (753, 0, "Cellbrook$Node"))) (re_lf 72 (some (742, 0, "Cellbrook$Node")))))))
def rFw7 : Nat → Option (Nat × Nat × String) := (re_br 83 (re_br 38 (re_br 27 (re_br 19 (re_lf 13 (some (246, 0, "Cellbrook$Machine"))) (re_br 23 (re_lf 19 (some (247, 0, "Cellbrook$Machine"))) (re_lf 23 (some (248, 0, "Cellbrook$Machine"))))) (re_br 31 (re_lf 27 (some (250, 0, "Cellbrook$Machine"))) (re_br 34 (re_lf 31 (some (251, 0, "Cellbrook$Machine"))) (re_lf 34 (some (243, 0, "Cellbrook$Machine")))))) (re_br 54 (re_br 47 (re_lf 38 (some (244, 0, "Cellbrook$Machine"))) (re_br 51 (re_lf 47 (some (253, 0, "Cellbrook$Machine"))) (re_lf 51 (some (254, 0, "Cellbrook$Machine"))))) (re_br 65 (re_br 57 (re_lf 54 (some (255, 0, "Cellbrook$Machine"))) (re_lf 57 (some (256, 0, "Cellbrook$Machine")))) (re_br 68 (re_lf 65 (some (249, 0, "Cellbrook$Machine"))) (re_lf 68 (some (252, 0, "Cellbrook$Machine"))))))) (re_br 119 (re_br 101 (re_br 86 (re_lf 83 (some (447, 0, "Cellbrook$Expr"))) (re_br 94 (re_lf 86 (some (451, 0, "Cellbrook$Expr"))) (re_lf 94 (some (449, 0, "Cellbrook$Expr"))))) (re_br 113 (re_br 109 (re_lf 101 (some (150, 0, "Cellbrook$Resources"))) (re_lf 109 (some (455, 0, "Cellbrook$Expr")))) (re_br 116 (re_lf 113 (some (453, 0, "Cellbrook$Expr"))) (re_lf 116 (some (745, 0, "Cellbrook$Node")))))) (re_br 126 (re_br 120 (re_lf 119 (some (747, 0, "Cellbrook$Node"))) (re_br 123 (re_lf 120 (some (750, 0, "Cellbrook$Node"))) (re_lf 123 (some (752, 0, "Cellbrook$Node"))))) (re_br 157 (re_br 129 (re_lf 126 (some (257, 0, "Cellbrook$Machine"))) (re_lf 129 (some (743, 0, "Cellbrook$Node")))) (re_br 162 (re_lf 157 (some (153, 0, "Cellbrook$Resources"))) (re_lf 162 (some (457, 0, "Cellbrook$Expr"))))))))
def rFw8 : Nat → Option (Nat × Nat × String) := (re_br 63 (re_br 23 (re_br 15 (re_lf 9 (some (293, 0, "Cellbrook$Sheet"))) (re_br 19 (re_lf 15 (some (294, 0, "Cellbrook$Sheet"))) (re_lf 19 (some (295, 0, "Cellbrook$Sheet"))))) (re_br 46 (re_br 27 (re_lf 23 (some (296, 0, "Cellbrook$Sheet"))) (re_lf 27 (some (297, 0, "Cellbrook$Sheet")))) (re_br 52 (re_lf 46 (some (126, 0, "Cellbrook$Links"))) (re_lf 52 (some (122, 0, "Cellbrook$Links")))))) (re_br 112 (re_br 70 (re_br 66 (re_lf 63 (some (173, 0, "Cellbrook$Result"))) (re_lf 66 (some (100, 0, "Cellbrook$Version")))) (re_br 80 (re_lf 70 (some (245, 0, "Cellbrook$Machine"))) (re_lf 80 (some (119, 0, "Cellbrook$Links"))))) (re_br 125 (re_br 117 (re_lf 112 (some (80, 0, "Cellbrook$Code"))) (re_lf 117 (some (86, 0, "Cellbrook$Code")))) (re_br 158 (re_lf 125 (some (84, 0, "Cellbrook$Code"))) (re_lf 158 (some (117, 0, "Cellbrook$Links")))))))
def rFw9 : Nat → Option (Nat × Nat × String) := fun _ => none
def rFw10 : Nat → Option (Nat × Nat × String) := (re_br 27 (re_br 16 (re_br 13 (re_lf 7 (some (446, 0, "Cellbrook$Expr"))) (re_lf 13 (some (448, 0, "Cellbrook$Expr")))) (re_br 20 (re_lf 16 (some (450, 0, "Cellbrook$Expr"))) (re_br 24 (re_lf 20 (some (452, 0, "Cellbrook$Expr"))) (re_lf 24 (some (454, 0, "Cellbrook$Expr")))))) (re_br 36 (re_br 30 (re_lf 27 (some (456, 0, "Cellbrook$Expr"))) (re_br 33 (re_lf 30 (some (458, 0, "Cellbrook$Expr"))) (re_lf 33 (some (460, 0, "Cellbrook$Expr"))))) (re_br 39 (re_lf 36 (some (462, 0, "Cellbrook$Expr"))) (re_br 42 (re_lf 39 (some (464, 0, "Cellbrook$Expr"))) (re_lf 42 (some (466, 0, "Cellbrook$Expr")))))))
def rFw11 : Nat → Option (Nat × Nat × String) := fun _ => none
def rFw12 : Nat → Option (Nat × Nat × String) := fun _ => none
def rFw (c i : Nat) : Option (Nat × Nat × String) := bif Nat.blt c 22 && Nat.blt i 320 then ((re_br 5 (re_br 2 (re_br 1 (re_lf 0 (some rFw0)) (re_lf 1 (some rFw1))) (re_br 3 (re_lf 2 (some rFw2)) (re_br 4 (re_lf 3 (some rFw3)) (re_lf 4 (some rFw4))))) (re_br 7 (re_br 6 (re_lf 5 (some rFw5)) (re_lf 6 (some rFw6))) (re_br 8 (re_lf 7 (some rFw7)) (re_br 10 (re_lf 8 (some rFw8)) (re_lf 10 (some rFw10)))))) c).getD (fun _ => none) i else none
def rCa0 : Nat → Option (Nat × Nat × Nat) := (re_br 137 (re_br 74 (re_br 40 (re_br 24 (re_br 17 (re_lf 3 (some (3, 0, 0))) (re_lf 17 (some (2, 64, 0)))) (re_br 33 (re_lf 24 (some (2, 192, 1))) (re_lf 33 (some (6, 256, 0))))) (re_br 48 (re_br 43 (re_lf 40 (some (6, 320, 0))) (re_lf 43 (some (2, 384, 1)))) (re_br 53 (re_lf 48 (some (2, 448, 2))) (re_br 71 (re_lf 53 (some (2, 512, 5))) (re_lf 71 (some (1, 2, 0))))))) (re_br 91 (re_br 81 (re_br 77 (re_lf 74 (some (2, 640, 6))) (re_lf 77 (some (1, 3, 1)))) (re_br 85 (re_lf 81 (some (1, 5, 1))) (re_br 88 (re_lf 85 (some (1, 7, 1))) (re_lf 88 (some (1, 9, 1)))))) (re_br 117 (re_br 114 (re_lf 91 (some (1, 10, 0))) (re_lf 114 (some (1, 193, 0)))) (re_br 121 (re_lf 117 (some (1, 17, 0))) (re_br 125 (re_lf 121 (some (1, 513, 1))) (re_lf 125 (some (1, 19, 1)))))))) (re_br 193 (re_br 159 (re_br 153 (re_br 147 (re_lf 137 (some (1, 135, 1))) (re_lf 147 (some (1, 136, 2)))) (re_br 156 (re_lf 153 (some (1, 137, 1))) (re_lf 156 (some (1, 66, 1))))) (re_br 165 (re_br 162 (re_lf 159 (some (1, 521, 1))) (re_lf 162 (some (1, 65, 0)))) (re_br 170 (re_lf 165 (some (0, 768, 1))) (re_br 180 (re_lf 170 (some (1, 67, 1))) (re_lf 180 (some (1, 68, 2))))))) (re_br 224 (re_br 207 (re_br 204 (re_lf 193 (some (1, 519, 1))) (re_lf 204 (some (1, 69, 1)))) (re_br 216 (re_lf 207 (some (1, 29, 1))) (re_br 220 (re_lf 216 (some (1, 71, 2))) (re_lf 220 (some (1, 70, 2)))))) (re_br 234 (re_br 231 (re_lf 224 (some (1, 515, 1))) (re_lf 231 (some (1, 522, 0)))) (re_br 239 (re_lf 234 (some (1, 322, 1))) (re_br 243 (re_lf 239 (some (1, 324, 1))) (re_lf 243 (some (1, 523, 0)))))))))
def rCa1 : Nat → Option (Nat × Nat × Nat) := (re_br 29 (re_br 22 (re_br 21 (re_lf 3 (some (3, 0, 0))) (re_lf 21 (some (6, 128, 0)))) (re_br 25 (re_lf 22 (some (1, 138, 0))) (re_lf 25 (some (1, 134, 1))))) (re_br 37 (re_br 33 (re_lf 29 (some (1, 70, 2))) (re_lf 33 (some (1, 131, 1)))) (re_br 41 (re_lf 37 (some (1, 139, 0))) (re_lf 41 (some (1, 140, 2))))))
def rCa2 : Nat → Option (Nat × Nat × Nat) := (re_br 36 (re_br 25 (re_lf 3 (some (3, 0, 0))) (re_br 29 (re_lf 25 (some (1, 135, 1))) (re_lf 29 (some (4, 641, 2))))) (re_br 50 (re_lf 36 (some (1, 130, 0))) (re_br 54 (re_lf 50 (some (4, 642, 2))) (re_lf 54 (some (4, 644, 3))))))
def rCa3 : Nat → Option (Nat × Nat × Nat) := (re_br 40 (re_br 34 (re_lf 3 (some (3, 0, 0))) (re_br 37 (re_lf 34 (some (1, 194, 0))) (re_lf 37 (some (1, 195, 0))))) (re_br 62 (re_br 43 (re_lf 40 (some (1, 196, 0))) (re_lf 43 (some (1, 197, 1)))) (re_br 66 (re_lf 62 (some (1, 129, 0))) (re_lf 66 (some (1, 130, 0))))))
def rCa4 : Nat → Option (Nat × Nat × Nat) := (re_lf 3 (some (3, 0, 0)))
def rCa5 : Nat → Option (Nat × Nat × Nat) := (re_br 57 (re_br 48 (re_br 31 (re_lf 3 (some (3, 0, 0))) (re_lf 31 (some (6, 128, 0)))) (re_br 51 (re_lf 48 (some (1, 327, 0))) (re_lf 51 (some (1, 138, 0))))) (re_br 72 (re_br 68 (re_lf 57 (some (1, 134, 1))) (re_lf 68 (some (1, 131, 1)))) (re_br 76 (re_lf 72 (some (1, 132, 0))) (re_br 80 (re_lf 76 (some (1, 133, 0))) (re_lf 80 (some (1, 323, 1)))))))
def rCa6 : Nat → Option (Nat × Nat × Nat) := (re_br 57 (re_br 21 (re_lf 3 (some (3, 0, 0))) (re_lf 21 (some (6, 704, 0)))) (re_br 65 (re_lf 57 (some (1, 386, 1))) (re_lf 65 (some (1, 387, 0)))))
def rCa7 : Nat → Option (Nat × Nat × Nat) := (re_br 97 (re_br 71 (re_br 42 (re_lf 3 (some (3, 0, 0))) (re_br 61 (re_lf 42 (some (1, 385, 0))) (re_lf 61 (some (1, 388, 4))))) (re_br 80 (re_br 76 (re_lf 71 (some (1, 452, 3))) (re_lf 76 (some (1, 453, 2)))) (re_br 90 (re_lf 80 (some (1, 460, 2))) (re_lf 90 (some (1, 455, 2)))))) (re_br 136 (re_br 106 (re_lf 97 (some (1, 461, 2))) (re_br 132 (re_lf 106 (some (1, 462, 2))) (re_lf 132 (some (1, 454, 0))))) (re_br 143 (re_br 140 (re_lf 136 (some (1, 456, 1))) (re_lf 140 (some (1, 457, 2)))) (re_br 146 (re_lf 143 (some (1, 458, 2))) (re_lf 146 (some (1, 459, 0)))))))
def rCa8 : Nat → Option (Nat × Nat × Nat) := (re_br 102 (re_br 76 (re_br 40 (re_br 31 (re_lf 3 (some (3, 0, 0))) (re_br 35 (re_lf 31 (some (1, 515, 1))) (re_lf 35 (some (1, 332, 0))))) (re_br 55 (re_lf 40 (some (1, 65, 0))) (re_br 59 (re_lf 55 (some (1, 514, 1))) (re_lf 59 (some (1, 519, 1)))))) (re_br 90 (re_br 83 (re_lf 76 (some (1, 321, 2))) (re_br 86 (re_lf 83 (some (1, 516, 1))) (re_lf 86 (some (1, 517, 2))))) (re_br 94 (re_lf 90 (some (1, 518, 2))) (re_br 98 (re_lf 94 (some (1, 325, 3))) (re_lf 98 (some (1, 326, 1))))))) (re_br 136 (re_br 121 (re_br 106 (re_lf 102 (some (1, 328, 2))) (re_br 108 (re_lf 106 (some (1, 449, 1))) (re_lf 108 (some (1, 520, 2))))) (re_br 128 (re_lf 121 (some (1, 451, 1))) (re_br 132 (re_lf 128 (some (1, 463, 0))) (re_lf 132 (some (1, 464, 0)))))) (re_br 147 (re_br 140 (re_lf 136 (some (1, 331, 3))) (re_br 143 (re_lf 140 (some (1, 450, 3))) (re_lf 143 (some (1, 329, 3))))) (re_br 150 (re_lf 147 (some (1, 322, 1))) (re_br 154 (re_lf 150 (some (1, 324, 1))) (re_lf 154 (some (1, 330, 1))))))))
def rCa9 : Nat → Option (Nat × Nat × Nat) := (re_br 95 (re_br 59 (re_br 44 (re_br 33 (re_br 27 (re_lf 9 (some (0, 580, 4))) (re_lf 27 (some (1, 1, 1)))) (re_br 37 (re_lf 33 (some (1, 4, 1))) (re_br 40 (re_lf 37 (some (1, 6, 1))) (re_lf 40 (some (1, 8, 0)))))) (re_br 50 (re_br 47 (re_lf 44 (some (1, 11, 1))) (re_lf 47 (some (1, 12, 0)))) (re_br 53 (re_lf 50 (some (1, 13, 1))) (re_br 56 (re_lf 53 (some (1, 14, 1))) (re_lf 56 (some (1, 15, 0))))))) (re_br 75 (re_br 66 (re_br 62 (re_lf 59 (some (1, 16, 0))) (re_lf 62 (some (1, 18, 2)))) (re_br 69 (re_lf 66 (some (1, 20, 2))) (re_br 72 (re_lf 69 (some (1, 21, 1))) (re_lf 72 (some (1, 22, 2)))))) (re_br 85 (re_br 79 (re_lf 75 (some (1, 23, 2))) (re_br 82 (re_lf 79 (some (1, 24, 1))) (re_lf 82 (some (1, 25, 1))))) (re_br 88 (re_lf 85 (some (1, 26, 1))) (re_br 91 (re_lf 88 (some (1, 27, 0))) (re_lf 91 (some (1, 28, 2)))))))) (re_br 147 (re_br 112 (re_br 101 (re_br 98 (re_lf 95 (some (1, 30, 1))) (re_lf 98 (some (1, 31, 1)))) (re_br 105 (re_lf 101 (some (1, 32, 1))) (re_br 108 (re_lf 105 (some (1, 33, 2))) (re_lf 108 (some (1, 34, 2)))))) (re_br 121 (re_br 115 (re_lf 112 (some (1, 35, 2))) (re_br 118 (re_lf 115 (some (1, 36, 1))) (re_lf 118 (some (1, 37, 1))))) (re_br 124 (re_lf 121 (some (1, 38, 1))) (re_br 129 (re_lf 124 (some (1, 39, 1))) (re_lf 129 (some (8, 579, 4))))))) (re_br 171 (re_br 156 (re_br 153 (re_lf 147 (some (0, 583, 3))) (re_lf 153 (some (0, 577, 2)))) (re_br 166 (re_lf 156 (some (0, 581, 5))) (re_br 170 (re_lf 166 (some (0, 578, 2))) (re_lf 170 (some (2, 0, 0)))))) (re_br 182 (re_br 175 (re_lf 171 (some (0, 587, 2))) (re_br 178 (re_lf 175 (some (0, 576, 2))) (re_lf 178 (some (0, 584, 4))))) (re_br 186 (re_lf 182 (some (0, 585, 5))) (re_br 189 (re_lf 186 (some (0, 586, 5))) (re_lf 189 (some (0, 582, 4)))))))))
def rCa10 : Nat → Option (Nat × Nat × Nat) := (re_br 54 (re_br 46 (re_lf 1 (some (3, 0, 0))) (re_br 50 (re_lf 46 (some (0, 641, 2))) (re_lf 50 (some (1, 643, 1))))) (re_br 58 (re_lf 54 (some (0, 642, 2))) (re_br 61 (re_lf 58 (some (2, 640, 6))) (re_lf 61 (some (0, 644, 3))))))
def rCa11 : Nat → Option (Nat × Nat × Nat) := (re_lf 1 (some (3, 0, 0)))
def rCa12 : Nat → Option (Nat × Nat × Nat) := fun _ => none
def rCa (c i : Nat) : Option (Nat × Nat × Nat) := bif Nat.blt c 22 && Nat.blt i 320 then ((re_br 6 (re_br 3 (re_br 1 (re_lf 0 (some rCa0)) (re_br 2 (re_lf 1 (some rCa1)) (re_lf 2 (some rCa2)))) (re_br 4 (re_lf 3 (some rCa3)) (re_br 5 (re_lf 4 (some rCa4)) (re_lf 5 (some rCa5))))) (re_br 9 (re_br 7 (re_lf 6 (some rCa6)) (re_br 8 (re_lf 7 (some rCa7)) (re_lf 8 (some rCa8)))) (re_br 10 (re_lf 9 (some rCa9)) (re_br 11 (re_lf 10 (some rCa10)) (re_lf 11 (some rCa11)))))) c).getD (fun _ => none) i else none
def rCw0 : Nat → Option (Nat × Nat × Nat) := (re_br 137 (re_br 74 (re_br 40 (re_br 24 (re_br 17 (re_lf 3 (some (59, 0, 0))) (re_lf 17 (some (66, 67, 0)))) (re_br 33 (re_lf 24 (some (109, 110, 0))) (re_lf 33 (some (4, 145, 0))))) (re_br 48 (re_br 43 (re_lf 40 (some (5, 165, 0))) (re_lf 43 (some (212, 213, 0)))) (re_br 53 (re_lf 48 (some (237, 238, 0))) (re_br 71 (re_lf 53 (some (289, 290, 0))) (re_lf 71 (some (369, 371, 0))))))) (re_br 91 (re_br 81 (re_br 77 (re_lf 74 (some (442, 443, 0))) (re_lf 77 (some (491, 493, 2)))) (re_br 85 (re_lf 81 (some (499, 501, 3))) (re_br 88 (re_lf 85 (some (523, 525, 4))) (re_lf 88 (some (532, 534, 5)))))) (re_br 117 (re_br 114 (re_lf 91 (some (538, 540, 6))) (re_lf 114 (some (583, 584, 585)))) (re_br 121 (re_lf 117 (some (611, 613, 11))) (re_br 125 (re_lf 121 (some (615, 616, 617))) (re_lf 125 (some (844, 846, 32)))))))) (re_br 193 (re_br 159 (re_br 153 (re_br 147 (re_lf 137 (some (850, 851, 852))) (re_lf 147 (some (855, 856, 857)))) (re_br 156 (re_lf 153 (some (865, 866, 867))) (re_lf 156 (some (873, 874, 875))))) (re_br 165 (re_br 162 (re_lf 159 (some (881, 882, 883))) (re_lf 162 (some (890, 620, 621)))) (re_br 170 (re_lf 165 (some (891, 892, 0))) (re_br 180 (re_lf 170 (some (901, 902, 903))) (re_lf 180 (some (911, 912, 913))))))) (re_br 224 (re_br 207 (re_br 204 (re_lf 193 (some (950, 680, 681))) (re_lf 204 (some (956, 957, 958)))) (re_br 216 (re_lf 207 (some (969, 971, 33))) (re_br 220 (re_lf 216 (some (975, 976, 977))) (re_lf 220 (some (980, 961, 962)))))) (re_br 234 (re_br 231 (re_lf 224 (some (989, 628, 629))) (re_lf 231 (some (994, 995, 996)))) (re_br 239 (re_lf 234 (some (1002, 660, 661))) (re_br 243 (re_lf 239 (some (1008, 672, 673))) (re_lf 243 (some (1013, 1014, 1015)))))))))
def rCw1 : Nat → Option (Nat × Nat × Nat) := (re_br 29 (re_br 22 (re_br 21 (re_lf 3 (some (69, 0, 0))) (re_lf 21 (some (3, 74, 0)))) (re_br 25 (re_lf 22 (some (877, 878, 879))) (re_lf 25 (some (964, 696, 697))))) (re_br 37 (re_br 33 (re_lf 29 (some (960, 961, 962))) (re_lf 33 (some (979, 636, 637)))) (re_br 41 (re_lf 37 (some (905, 906, 907))) (re_lf 41 (some (915, 916, 917))))))
def rCw2 : Nat → Option (Nat × Nat × Nat) := (re_br 36 (re_br 25 (re_lf 3 (some (76, 0, 0))) (re_br 29 (re_lf 25 (some (859, 851, 852))) (re_lf 29 (some (7, 640, 0))))) (re_br 50 (re_lf 36 (some (909, 608, 609))) (re_br 54 (re_lf 50 (some (9, 920, 0))) (re_lf 54 (some (10, 928, 0))))))
def rCw3 : Nat → Option (Nat × Nat × Nat) := (re_br 40 (re_br 34 (re_lf 3 (some (112, 0, 0))) (re_br 37 (re_lf 34 (some (587, 589, 7))) (re_lf 37 (some (591, 593, 8))))) (re_br 62 (re_br 43 (re_lf 40 (some (599, 601, 9))) (re_lf 43 (some (603, 605, 10)))) (re_br 66 (re_lf 62 (some (595, 596, 597))) (re_lf 66 (some (607, 608, 609))))))
def rCw4 : Nat → Option (Nat × Nat × Nat) := (re_lf 3 (some (147, 0, 0)))
def rCw5 : Nat → Option (Nat × Nat × Nat) := (re_br 57 (re_br 48 (re_br 31 (re_lf 3 (some (167, 0, 0))) (re_lf 31 (some (6, 74, 0)))) (re_br 51 (re_lf 48 (some (687, 689, 17))) (re_lf 51 (some (889, 878, 879))))) (re_br 72 (re_br 68 (re_lf 57 (some (695, 696, 697))) (re_lf 68 (some (635, 636, 637)))) (re_br 76 (re_lf 72 (some (643, 644, 645))) (re_br 80 (re_lf 76 (some (647, 648, 649))) (re_lf 80 (some (663, 665, 15)))))))
def rCw6 : Nat → Option (Nat × Nat × Nat) := (re_br 57 (re_br 21 (re_lf 3 (some (215, 0, 0))) (re_lf 21 (some (8, 739, 0)))) (re_br 65 (re_lf 57 (some (707, 709, 18))) (re_lf 65 (some (712, 714, 19)))))
def rCw7 : Nat → Option (Nat × Nat × Nat) := (re_br 97 (re_br 71 (re_br 42 (re_lf 3 (some (240, 0, 0))) (re_br 61 (re_lf 42 (some (703, 704, 705))) (re_lf 61 (some (732, 733, 734))))) (re_br 80 (re_br 76 (re_lf 71 (some (777, 779, 21))) (re_lf 76 (some (782, 784, 22)))) (re_br 90 (re_lf 80 (some (816, 818, 29))) (re_lf 90 (some (796, 798, 24)))))) (re_br 136 (re_br 106 (re_lf 97 (some (820, 822, 30))) (re_br 132 (re_lf 106 (some (824, 826, 31))) (re_lf 132 (some (786, 788, 23))))) (re_br 143 (re_br 140 (re_lf 136 (some (800, 802, 25))) (re_lf 140 (some (804, 806, 26)))) (re_br 146 (re_lf 143 (some (808, 810, 27))) (re_lf 146 (some (812, 814, 28)))))))
def rCw8 : Nat → Option (Nat × Nat × Nat) := (re_br 102 (re_br 76 (re_br 40 (re_br 31 (re_lf 3 (some (292, 0, 0))) (re_br 35 (re_lf 31 (some (627, 628, 629))) (re_lf 35 (some (885, 886, 887))))) (re_br 55 (re_lf 40 (some (619, 620, 621))) (re_br 59 (re_lf 55 (some (623, 625, 12))) (re_lf 59 (some (679, 680, 681)))))) (re_br 90 (re_br 83 (re_lf 76 (some (631, 632, 633))) (re_br 86 (re_lf 83 (some (651, 653, 13))) (re_lf 86 (some (655, 657, 14))))) (re_br 94 (re_lf 90 (some (667, 669, 16))) (re_br 98 (re_lf 94 (some (675, 676, 677))) (re_lf 98 (some (683, 684, 685))))))) (re_br 136 (re_br 121 (re_br 106 (re_lf 102 (some (691, 692, 693))) (re_br 108 (re_lf 106 (some (699, 700, 701))) (re_lf 108 (some (716, 718, 20))))) (re_br 128 (re_lf 121 (some (773, 774, 775))) (re_br 132 (re_lf 128 (some (828, 829, 830))) (re_lf 132 (some (832, 833, 834)))))) (re_br 147 (re_br 140 (re_lf 136 (some (836, 837, 838))) (re_br 143 (re_lf 140 (some (728, 729, 730))) (re_lf 143 (some (720, 721, 722))))) (re_br 150 (re_lf 147 (some (659, 660, 661))) (re_br 154 (re_lf 150 (some (671, 672, 673))) (re_lf 154 (some (724, 725, 726))))))))
def rCw9 : Nat → Option (Nat × Nat × Nat) := (re_br 95 (re_br 59 (re_br 44 (re_br 33 (re_br 27 (re_lf 9 (some (362, 363, 0))) (re_lf 27 (some (365, 366, 367)))) (re_br 37 (re_lf 33 (some (495, 496, 497))) (re_br 40 (re_lf 37 (some (519, 520, 521))) (re_lf 40 (some (528, 529, 530)))))) (re_br 50 (re_br 47 (re_lf 44 (some (542, 543, 544))) (re_lf 47 (some (562, 563, 564)))) (re_br 53 (re_lf 50 (some (566, 567, 568))) (re_br 56 (re_lf 53 (some (570, 571, 572))) (re_lf 56 (some (574, 575, 576))))))) (re_br 75 (re_br 66 (re_br 62 (re_lf 59 (some (578, 579, 580))) (re_lf 62 (some (840, 841, 842)))) (re_br 69 (re_lf 66 (some (860, 861, 862))) (re_br 72 (re_lf 69 (some (869, 870, 871))) (re_lf 72 (some (897, 898, 899)))))) (re_br 85 (re_br 79 (re_lf 75 (some (933, 934, 935))) (re_br 82 (re_lf 79 (some (937, 938, 939))) (re_lf 82 (some (941, 942, 943))))) (re_br 88 (re_lf 85 (some (946, 947, 948))) (re_br 91 (re_lf 88 (some (951, 952, 953))) (re_lf 91 (some (965, 966, 967)))))))) (re_br 147 (re_br 112 (re_br 101 (re_br 98 (re_lf 95 (some (981, 982, 983))) (re_lf 98 (some (985, 986, 987)))) (re_br 105 (re_lf 101 (some (990, 991, 992))) (re_br 108 (re_lf 105 (some (998, 999, 1000))) (re_lf 108 (some (1003, 1004, 1005)))))) (re_br 121 (re_br 115 (re_lf 112 (some (1009, 1010, 1011))) (re_br 118 (re_lf 115 (some (1018, 1019, 1020))) (re_lf 118 (some (1022, 1023, 1024))))) (re_br 124 (re_lf 121 (some (1026, 1027, 1028))) (re_br 129 (re_lf 124 (some (1030, 1031, 1032))) (re_lf 129 (some (356, 357, 0))))))) (re_br 171 (re_br 156 (re_br 153 (re_lf 147 (some (1051, 1052, 0))) (re_lf 153 (some (349, 350, 0)))) (re_br 166 (re_lf 156 (some (1044, 1045, 0))) (re_br 170 (re_lf 166 (some (352, 353, 0))) (re_lf 170 (some (56, 57, 0)))))) (re_br 182 (re_br 175 (re_lf 171 (some (1067, 1068, 0))) (re_br 178 (re_lf 175 (some (344, 345, 0))) (re_lf 178 (some (1055, 1056, 0))))) (re_br 186 (re_lf 182 (some (1058, 1059, 0))) (re_br 189 (re_lf 186 (some (1064, 1065, 0))) (re_lf 189 (some (1048, 1049, 0)))))))))
def rCw10 : Nat → Option (Nat × Nat × Nat) := (re_br 54 (re_br 46 (re_lf 1 (some (445, 0, 0))) (re_br 50 (re_lf 46 (some (642, 640, 0))) (re_lf 50 (some (922, 923, 924))))) (re_br 58 (re_lf 54 (some (926, 920, 0))) (re_br 61 (re_lf 58 (some (931, 443, 0))) (re_lf 61 (some (932, 928, 0))))))
def rCw11 : Nat → Option (Nat × Nat × Nat) := (re_lf 1 (some (741, 0, 0)))
def rCw12 : Nat → Option (Nat × Nat × Nat) := fun _ => none
def rCw (c i : Nat) : Option (Nat × Nat × Nat) := bif Nat.blt c 22 && Nat.blt i 320 then ((re_br 6 (re_br 3 (re_br 1 (re_lf 0 (some rCw0)) (re_br 2 (re_lf 1 (some rCw1)) (re_lf 2 (some rCw2)))) (re_br 4 (re_lf 3 (some rCw3)) (re_br 5 (re_lf 4 (some rCw4)) (re_lf 5 (some rCw5))))) (re_br 9 (re_br 7 (re_lf 6 (some rCw6)) (re_br 8 (re_lf 7 (some rCw7)) (re_lf 8 (some rCw8)))) (re_br 10 (re_lf 9 (some rCw9)) (re_br 11 (re_lf 10 (some rCw10)) (re_lf 11 (some rCw11)))))) c).getD (fun _ => none) i else none
def rNw0 : Nat → Option (Nat × List Value) := (re_br 38 (re_br 22 (re_br 15 (re_lf 9 (some (9, [.int 0, .int 0, .long 0, .null, .null, .null, .int 0, .int 0, .int 0, .int 0, .int 0]))) (re_lf 15 (some (1, [.null, .null])))) (re_br 31 (re_lf 22 (some (3, [.null, .null, .null, .null, .null, .null, .null]))) (re_lf 31 (some (4, [.null, .int 0]))))) (re_br 46 (re_br 41 (re_lf 38 (some (5, [.int 0, .int 0, .int 0, .null, .null, .null, .null, .null, .int 0, .null, .null]))) (re_lf 41 (some (6, [.null, .null, .null, .null, .int 0, .int 0])))) (re_br 51 (re_lf 46 (some (7, [.null, .null, .null, .null, .null, .int 0, .null, .null, .int 0, .int 0, .int 0, .int 0, .null, .long 0]))) (re_lf 51 (some (8, [.null, .null, .null, .null, .int 0]))))))
def rNw1 : Nat → Option (Nat × List Value) := (re_lf 15 (some (2, [.int 0, .null, .null])))
def rNw2 : Nat → Option (Nat × List Value) := (re_lf 15 (some (9, [.int 0, .int 0, .long 0, .null, .null, .null, .int 0, .int 0, .int 0, .int 0, .int 0])))
def rNw3 : Nat → Option (Nat × List Value) := fun _ => none
def rNw4 : Nat → Option (Nat × List Value) := fun _ => none
def rNw5 : Nat → Option (Nat × List Value) := (re_br 29 (re_lf 23 (some (10, [.null, .int 0, .long 0, .null, .null, .int 0, .null, .null]))) (re_lf 29 (some (2, [.int 0, .null, .null]))))
def rNw6 : Nat → Option (Nat × List Value) := (re_lf 19 (some (10, [.null, .int 0, .long 0, .null, .null, .int 0, .null, .null])))
def rNw7 : Nat → Option (Nat × List Value) := (re_br 17 (re_lf 11 (some (9, [.int 0, .int 0, .long 0, .null, .null, .null, .int 0, .int 0, .int 0, .int 0, .int 0]))) (re_lf 17 (some (10, [.null, .int 0, .long 0, .null, .null, .int 0, .null, .null]))))
def rNw8 : Nat → Option (Nat × List Value) := fun _ => none
def rNw9 : Nat → Option (Nat × List Value) := (re_lf 28 (some (0, [.null, .int 0, .null, .int 0, .null, .null, .null, .null, .int 0, .null, .int 0])))
def rNw10 : Nat → Option (Nat × List Value) := (re_lf 8 (some (9, [.int 0, .int 0, .long 0, .null, .null, .null, .int 0, .int 0, .int 0, .int 0, .int 0])))
def rNw11 : Nat → Option (Nat × List Value) := fun _ => none
def rNw12 : Nat → Option (Nat × List Value) := fun _ => none
def rNw (c i : Nat) : Option (Nat × List Value) := bif Nat.blt c 22 && Nat.blt i 320 then ((re_br 6 (re_br 2 (re_br 1 (re_lf 0 (some rNw0)) (re_lf 1 (some rNw1))) (re_br 5 (re_lf 2 (some rNw2)) (re_lf 5 (some rNw5)))) (re_br 9 (re_br 7 (re_lf 6 (some rNw6)) (re_lf 7 (some rNw7))) (re_br 10 (re_lf 9 (some rNw9)) (re_lf 10 (some rNw10))))) c).getD (fun _ => none) i else none
def rNv0 : Nat → Option (Nat × Nat × Nat) := (re_br 38 (re_br 22 (re_br 15 (re_lf 9 (some (62, 441, 48))) (re_lf 15 (some (64, 65, 36)))) (re_br 31 (re_lf 22 (some (107, 108, 38))) (re_lf 31 (some (142, 143, 39))))) (re_br 46 (re_br 41 (re_lf 38 (some (161, 163, 40))) (re_lf 41 (some (210, 211, 41)))) (re_br 51 (re_lf 46 (some (235, 236, 42))) (re_lf 51 (some (287, 288, 43))))))
def rNv1 : Nat → Option (Nat × Nat × Nat) := (re_lf 15 (some (70, 72, 37)))
def rNv2 : Nat → Option (Nat × Nat × Nat) := (re_lf 15 (some (77, 441, 48)))
def rNv3 : Nat → Option (Nat × Nat × Nat) := fun _ => none
def rNv4 : Nat → Option (Nat × Nat × Nat) := fun _ => none
def rNv5 : Nat → Option (Nat × Nat × Nat) := (re_br 29 (re_lf 23 (some (168, 737, 51))) (re_lf 29 (some (170, 72, 37))))
def rNv6 : Nat → Option (Nat × Nat × Nat) := (re_lf 19 (some (736, 737, 51)))
def rNv7 : Nat → Option (Nat × Nat × Nat) := (re_br 17 (re_lf 11 (some (241, 441, 48))) (re_lf 17 (some (242, 737, 51))))
def rNv8 : Nat → Option (Nat × Nat × Nat) := fun _ => none
def rNv9 : Nat → Option (Nat × Nat × Nat) := (re_lf 28 (some (54, 55, 35)))
def rNv10 : Nat → Option (Nat × Nat × Nat) := (re_lf 8 (some (930, 441, 48)))
def rNv11 : Nat → Option (Nat × Nat × Nat) := fun _ => none
def rNv12 : Nat → Option (Nat × Nat × Nat) := fun _ => none
def rNv (c i : Nat) : Option (Nat × Nat × Nat) := bif Nat.blt c 22 && Nat.blt i 320 then ((re_br 6 (re_br 2 (re_br 1 (re_lf 0 (some rNv0)) (re_lf 1 (some rNv1))) (re_br 5 (re_lf 2 (some rNv2)) (re_lf 5 (some rNv5)))) (re_br 9 (re_br 7 (re_lf 6 (some rNv6)) (re_lf 7 (some rNv7))) (re_br 10 (re_lf 9 (some rNv9)) (re_lf 10 (some rNv10))))) c).getD (fun _ => none) i else none
def rAn0 : Nat → Option (Nat) := (re_br 15 (re_lf 9 (some (3))) (re_br 38 (re_lf 15 (some (7))) (re_lf 38 (some (5)))))
def rAn1 : Nat → Option (Nat) := (re_lf 15 (some (4)))
def rAn2 : Nat → Option (Nat) := (re_lf 15 (some (3)))
def rAn3 : Nat → Option (Nat) := fun _ => none
def rAn4 : Nat → Option (Nat) := fun _ => none
def rAn5 : Nat → Option (Nat) := (re_br 29 (re_lf 23 (some (6))) (re_lf 29 (some (4))))
def rAn6 : Nat → Option (Nat) := (re_lf 19 (some (6)))
def rAn7 : Nat → Option (Nat) := (re_br 17 (re_lf 11 (some (3))) (re_lf 17 (some (6))))
def rAn8 : Nat → Option (Nat) := fun _ => none
def rAn9 : Nat → Option (Nat) := fun _ => none
def rAn10 : Nat → Option (Nat) := (re_lf 8 (some (3)))
def rAn11 : Nat → Option (Nat) := fun _ => none
def rAn12 : Nat → Option (Nat) := fun _ => none
def rAn (c i : Nat) : Option (Nat) := bif Nat.blt c 22 && Nat.blt i 320 then ((re_br 5 (re_br 1 (re_lf 0 (some rAn0)) (re_br 2 (re_lf 1 (some rAn1)) (re_lf 2 (some rAn2)))) (re_br 7 (re_br 6 (re_lf 5 (some rAn5)) (re_lf 6 (some rAn6))) (re_br 10 (re_lf 7 (some rAn7)) (re_lf 10 (some rAn10))))) c).getD (fun _ => none) i else none
def rAw0 : Nat → Option (Nat) := (re_br 15 (re_lf 9 (some (62))) (re_br 38 (re_lf 15 (some (64))) (re_lf 38 (some (161)))))
def rAw1 : Nat → Option (Nat) := (re_lf 15 (some (70)))
def rAw2 : Nat → Option (Nat) := (re_lf 15 (some (77)))
def rAw3 : Nat → Option (Nat) := fun _ => none
def rAw4 : Nat → Option (Nat) := fun _ => none
def rAw5 : Nat → Option (Nat) := (re_br 29 (re_lf 23 (some (168))) (re_lf 29 (some (170))))
def rAw6 : Nat → Option (Nat) := (re_lf 19 (some (736)))
def rAw7 : Nat → Option (Nat) := (re_br 17 (re_lf 11 (some (241))) (re_lf 17 (some (242))))
def rAw8 : Nat → Option (Nat) := fun _ => none
def rAw9 : Nat → Option (Nat) := fun _ => none
def rAw10 : Nat → Option (Nat) := (re_lf 8 (some (930)))
def rAw11 : Nat → Option (Nat) := fun _ => none
def rAw12 : Nat → Option (Nat) := fun _ => none
def rAw (c i : Nat) : Option (Nat) := bif Nat.blt c 22 && Nat.blt i 320 then ((re_br 5 (re_br 1 (re_lf 0 (some rAw0)) (re_br 2 (re_lf 1 (some rAw1)) (re_lf 2 (some rAw2)))) (re_br 7 (re_br 6 (re_lf 5 (some rAw5)) (re_lf 6 (some rAw6))) (re_br 10 (re_lf 7 (some rAw7)) (re_lf 10 (some rAw10))))) c).getD (fun _ => none) i else none
def rKs0 : Nat → Option (Value) := (re_lf 246 (some (.long (-1))))
def rKs1 : Nat → Option (Value) := fun _ => none
def rKs2 : Nat → Option (Value) := fun _ => none
def rKs3 : Nat → Option (Value) := fun _ => none
def rKs4 : Nat → Option (Value) := fun _ => none
def rKs5 : Nat → Option (Value) := fun _ => none
def rKs6 : Nat → Option (Value) := (re_lf 61 (some (.int (10000000))))
def rKs7 : Nat → Option (Value) := (re_br 160 (re_br 149 (re_lf 75 (some (.int (1000000)))) (re_lf 149 (some (.long (2147483647))))) (re_br 161 (re_lf 160 (some (.int (1664525)))) (re_lf 161 (some (.int (1013904223))))))
def rKs8 : Nat → Option (Value) := fun _ => none
def rKs9 : Nat → Option (Value) := (re_br 137 (re_br 25 (re_br 17 (re_br 8 (re_lf 7 (some (.int (91009)))) (re_lf 8 (some (.int (1012629033))))) (re_br 21 (re_lf 17 (some (.long (-2000000001)))) (re_lf 21 (some (.long (-2000000002)))))) (re_br 131 (re_br 127 (re_lf 25 (some (.long (-2000000003)))) (re_lf 127 (some (.long (17))))) (re_br 133 (re_lf 131 (some (.long (31)))) (re_br 135 (re_lf 133 (some (.long (7)))) (re_lf 135 (some (.long (1009)))))))) (re_br 145 (re_br 141 (re_br 139 (re_lf 137 (some (.long (65537)))) (re_lf 139 (some (.long (4099))))) (re_br 143 (re_lf 141 (some (.long (3)))) (re_lf 143 (some (.long (1000003)))))) (re_br 160 (re_br 151 (re_lf 145 (some (.long (-2000000099)))) (re_lf 151 (some (.long (-1))))) (re_br 162 (re_lf 160 (some (.long (5)))) (re_br 164 (re_lf 162 (some (.long (4)))) (re_lf 164 (some (.long (12)))))))))
def rKs10 : Nat → Option (Value) := fun _ => none
def rKs11 : Nat → Option (Value) := fun _ => none
def rKs12 : Nat → Option (Value) := (re_br 266 (re_lf 265 (some (.int (1431655765)))) (re_br 267 (re_lf 266 (some (.int (858993459)))) (re_lf 267 (some (.int (252645135))))))
def rKs (c i : Nat) : Option (Value) := bif Nat.blt c 22 && Nat.blt i 320 then ((re_br 7 (re_br 6 (re_lf 0 (some rKs0)) (re_lf 6 (some rKs6))) (re_br 9 (re_lf 7 (some rKs7)) (re_br 12 (re_lf 9 (some rKs9)) (re_lf 12 (some rKs12))))) c).getD (fun _ => none) i else none
def rKw0 : Nat → Option (Nat) := (re_lf 246 (some (1017)))
def rKw1 : Nat → Option (Nat) := fun _ => none
def rKw2 : Nat → Option (Nat) := fun _ => none
def rKw3 : Nat → Option (Nat) := fun _ => none
def rKw4 : Nat → Option (Nat) := fun _ => none
def rKw5 : Nat → Option (Nat) := fun _ => none
def rKw6 : Nat → Option (Nat) := (re_lf 61 (some (711)))
def rKw7 : Nat → Option (Nat) := (re_br 160 (re_br 149 (re_lf 75 (some (781))) (re_lf 149 (some (790)))) (re_br 161 (re_lf 160 (some (794))) (re_lf 161 (some (795)))))
def rKw8 : Nat → Option (Nat) := fun _ => none
def rKw9 : Nat → Option (Nat) := (re_br 137 (re_br 25 (re_br 17 (re_br 8 (re_lf 7 (some (347))) (re_lf 8 (some (348)))) (re_br 21 (re_lf 17 (some (1034))) (re_lf 21 (some (1035))))) (re_br 131 (re_br 127 (re_lf 25 (some (1036))) (re_lf 127 (some (355)))) (re_br 133 (re_lf 131 (some (1037))) (re_br 135 (re_lf 133 (some (1038))) (re_lf 135 (some (1039))))))) (re_br 145 (re_br 141 (re_br 139 (re_lf 137 (some (1040))) (re_lf 139 (some (1041)))) (re_br 143 (re_lf 141 (some (1042))) (re_lf 143 (some (1043))))) (re_br 160 (re_br 151 (re_lf 145 (some (1047))) (re_lf 151 (some (1054)))) (re_br 162 (re_lf 160 (some (1061))) (re_br 164 (re_lf 162 (some (1062))) (re_lf 164 (some (1063))))))))
def rKw10 : Nat → Option (Nat) := fun _ => none
def rKw11 : Nat → Option (Nat) := fun _ => none
def rKw12 : Nat → Option (Nat) := (re_br 266 (re_lf 265 (some (894))) (re_br 267 (re_lf 266 (some (895))) (re_lf 267 (some (896)))))
def rKw (c i : Nat) : Option (Nat) := bif Nat.blt c 22 && Nat.blt i 320 then ((re_br 7 (re_br 6 (re_lf 0 (some rKw0)) (re_lf 6 (some rKw6))) (re_br 9 (re_lf 7 (some rKw7)) (re_br 12 (re_lf 9 (some rKw9)) (re_lf 12 (some rKw12))))) c).getD (fun _ => none) i else none
def rHk0 : Nat → Option (Nat) := (re_br 105 (re_lf 95 (some (1))) (re_br 211 (re_lf 105 (some (0))) (re_lf 211 (some (2)))))
def rHk1 : Nat → Option (Nat) := fun _ => none
def rHk2 : Nat → Option (Nat) := fun _ => none
def rHk3 : Nat → Option (Nat) := fun _ => none
def rHk4 : Nat → Option (Nat) := fun _ => none
def rHk5 : Nat → Option (Nat) := fun _ => none
def rHk6 : Nat → Option (Nat) := fun _ => none
def rHk7 : Nat → Option (Nat) := fun _ => none
def rHk8 : Nat → Option (Nat) := fun _ => none
def rHk9 : Nat → Option (Nat) := (re_br 19 (re_lf 15 (some (2))) (re_br 23 (re_lf 19 (some (1))) (re_lf 23 (some (0)))))
def rHk10 : Nat → Option (Nat) := fun _ => none
def rHk11 : Nat → Option (Nat) := fun _ => none
def rHk12 : Nat → Option (Nat) := fun _ => none
def rHk (c i : Nat) : Option (Nat) := bif Nat.blt c 22 && Nat.blt i 320 then ((re_br 9 (re_lf 0 (some rHk0)) (re_lf 9 (some rHk9))) c).getD (fun _ => none) i else none
def rHw0 : Nat → Option (Nat) := (re_br 105 (re_lf 95 (some (546))) (re_br 211 (re_lf 105 (some (373))) (re_lf 211 (some (503)))))
def rHw1 : Nat → Option (Nat) := fun _ => none
def rHw2 : Nat → Option (Nat) := fun _ => none
def rHw3 : Nat → Option (Nat) := fun _ => none
def rHw4 : Nat → Option (Nat) := fun _ => none
def rHw5 : Nat → Option (Nat) := fun _ => none
def rHw6 : Nat → Option (Nat) := fun _ => none
def rHw7 : Nat → Option (Nat) := fun _ => none
def rHw8 : Nat → Option (Nat) := fun _ => none
def rHw9 : Nat → Option (Nat) := (re_br 19 (re_lf 15 (some (359))) (re_br 23 (re_lf 19 (some (360))) (re_lf 23 (some (361)))))
def rHw10 : Nat → Option (Nat) := fun _ => none
def rHw11 : Nat → Option (Nat) := fun _ => none
def rHw12 : Nat → Option (Nat) := fun _ => none
def rHw (c i : Nat) : Option (Nat) := bif Nat.blt c 22 && Nat.blt i 320 then ((re_br 9 (re_lf 0 (some rHw0)) (re_lf 9 (some rHw9))) c).getD (fun _ => none) i else none
def rHh : Nat → List (Nat × Nat × Nat × Nat) := fun y => ((re_lf 579 (some [(0, 7, 8, 15), (0, 7, 14, 19), (0, 7, 20, 23)])) y).getD []
def rXc : List Nat := [0, 2, 1]
def rJd0 : Nat → Option (Nat × Nat) := fun _ => none
def rJd1 : Nat → Option (Nat × Nat) := fun _ => none
def rJd2 : Nat → Option (Nat × Nat) := fun _ => none
def rJd3 : Nat → Option (Nat × Nat) := fun _ => none
def rJd4 : Nat → Option (Nat × Nat) := fun _ => none
def rJd5 : Nat → Option (Nat × Nat) := fun _ => none
def rJd6 : Nat → Option (Nat × Nat) := fun _ => none
def rJd7 : Nat → Option (Nat × Nat) := (re_lf 151 (some (1, 0)))
def rJd8 : Nat → Option (Nat × Nat) := fun _ => none
def rJd9 : Nat → Option (Nat × Nat) := fun _ => none
def rJd10 : Nat → Option (Nat × Nat) := fun _ => none
def rJd11 : Nat → Option (Nat × Nat) := fun _ => none
def rJd12 : Nat → Option (Nat × Nat) := fun _ => none
def rJd (c i : Nat) : Option (Nat × Nat) := bif Nat.blt c 22 && Nat.blt i 320 then ((re_lf 7 (some rJd7)) c).getD (fun _ => none) i else none
def rJw0 : Nat → Option (List Nat) := fun _ => none
def rJw1 : Nat → Option (List Nat) := fun _ => none
def rJw2 : Nat → Option (List Nat) := fun _ => none
def rJw3 : Nat → Option (List Nat) := fun _ => none
def rJw4 : Nat → Option (List Nat) := fun _ => none
def rJw5 : Nat → Option (List Nat) := fun _ => none
def rJw6 : Nat → Option (List Nat) := fun _ => none
def rJw7 : Nat → Option (List Nat) := (re_lf 151 (some ([791, 792, 52, 793])))
def rJw8 : Nat → Option (List Nat) := fun _ => none
def rJw9 : Nat → Option (List Nat) := fun _ => none
def rJw10 : Nat → Option (List Nat) := fun _ => none
def rJw11 : Nat → Option (List Nat) := fun _ => none
def rJw12 : Nat → Option (List Nat) := fun _ => none
def rJw (c i : Nat) : Option (List Nat) := bif Nat.blt c 22 && Nat.blt i 320 then ((re_lf 7 (some rJw7)) c).getD (fun _ => none) i else none
def rTh2 : Nat → Option (Nat × Nat × Nat × Nat × String) := (re_lf 9 (some (0, 105, 262, 109, "the pile has 20 exprs")))
def rTh5 : Nat → Option (Nat × Nat × Nat × Nat × String) := (re_lf 10 (some (2, 211, 256, 215, "no such name")))
def rTh7 : Nat → Option (Nat × Nat × Nat × Nat × String) := (re_lf 9 (some (2, 211, 258, 215, "no such input")))
def rTh9 : Nat → Option (Nat × Nat × Nat × Nat × String) := (re_br 73 (re_lf 8 (some (0, 105, 264, 109, "too few exprs on the pile"))) (re_lf 73 (some (0, 105, 269, 109, "more than 30 parts"))))
def rTh11 : Nat → Option (Nat × Nat × Nat × Nat × String) := (re_lf 9 (some (1, 95, 97, 99, "no such sign")))
def rTh16 : Nat → Option (Nat × Nat × Nat × Nat × String) := (re_lf 9 (some (0, 105, 107, 109, "there were 12 cells")))
def rTh18 : Nat → Option (Nat × Nat × Nat × Nat × String) := (re_br 53 (re_lf 27 (some (0, 105, 135, 109, "the pile is empty"))) (re_lf 53 (some (0, 105, 145, 109, "the cell has 4 definitions"))))
def rTh19 : Nat → Option (Nat × Nat × Nat × Nat × String) := (re_lf 22 (some (2, 211, 254, 215, "no such cell")))
def rTh20 : Nat → Option (Nat × Nat × Nat × Nat × String) := (re_lf 32 (some (0, 105, 151, 109, "the cell does not define the name")))
def rTh22 : Nat → Option (Nat × Nat × Nat × Nat × String) := (re_lf 26 (some (0, 105, 174, 109, "the other name is in use")))
def rTh25 : Nat → Option (Nat × Nat × Nat × Nat × String) := (re_lf 9 (some (1, 95, 191, 99, "no such mode")))
def rTh27 : Nat → Option (Nat × Nat × Nat × Nat × String) := (re_lf 8 (some (0, 105, 202, 109, "there are 4 branches")))
def rTh28 : Nat → Option (Nat × Nat × Nat × Nat × String) := (re_lf 18 (some (2, 211, 213, 215, "there never was such a cell")))
def rTh29 : Nat → Option (Nat × Nat × Nat × Nat × String) := (re_lf 27 (some (2, 211, 260, 215, "no such branch")))
def rTh34 : Nat → Option (Nat × Nat × Nat × Nat × String) := (re_lf 28 (some (0, 105, 237, 109, "no number is kept of the name")))
def rTh (y i : Nat) : Option (Nat × Nat × Nat × Nat × String) := bif Nat.blt y 1408 && Nat.blt i 256 then ((re_br 19 (re_br 9 (re_br 5 (re_lf 2 (some rTh2)) (re_br 7 (re_lf 5 (some rTh5)) (re_lf 7 (some rTh7)))) (re_br 16 (re_br 11 (re_lf 9 (some rTh9)) (re_lf 11 (some rTh11))) (re_br 18 (re_lf 16 (some rTh16)) (re_lf 18 (some rTh18))))) (re_br 27 (re_br 22 (re_br 20 (re_lf 19 (some rTh19)) (re_lf 20 (some rTh20))) (re_br 25 (re_lf 22 (some rTh22)) (re_lf 25 (some rTh25)))) (re_br 29 (re_br 28 (re_lf 27 (some rTh27)) (re_lf 28 (some rTh28))) (re_br 34 (re_lf 29 (some rTh29)) (re_lf 34 (some rTh34)))))) y).getD (fun _ => none) i else none
def rTx2 : Nat → Option Nat := (re_lf 9 (some 0))
def rTx5 : Nat → Option Nat := (re_lf 10 (some 2))
def rTx7 : Nat → Option Nat := (re_lf 9 (some 2))
def rTx9 : Nat → Option Nat := (re_br 73 (re_lf 8 (some 0)) (re_lf 73 (some 0)))
def rTx11 : Nat → Option Nat := (re_lf 9 (some 1))
def rTx16 : Nat → Option Nat := (re_lf 9 (some 0))
def rTx18 : Nat → Option Nat := (re_br 53 (re_lf 27 (some 0)) (re_lf 53 (some 0)))
def rTx19 : Nat → Option Nat := (re_lf 22 (some 2))
def rTx20 : Nat → Option Nat := (re_lf 32 (some 0))
def rTx22 : Nat → Option Nat := (re_lf 26 (some 0))
def rTx25 : Nat → Option Nat := (re_lf 9 (some 1))
def rTx27 : Nat → Option Nat := (re_lf 8 (some 0))
def rTx28 : Nat → Option Nat := (re_lf 18 (some 2))
def rTx29 : Nat → Option Nat := (re_lf 27 (some 2))
def rTx34 : Nat → Option Nat := (re_lf 28 (some 0))
def rTx (y i : Nat) : Option Nat := bif Nat.blt y 1408 && Nat.blt i 256 then ((re_br 19 (re_br 9 (re_br 5 (re_lf 2 (some rTx2)) (re_br 7 (re_lf 5 (some rTx5)) (re_lf 7 (some rTx7)))) (re_br 16 (re_br 11 (re_lf 9 (some rTx9)) (re_lf 11 (some rTx11))) (re_br 18 (re_lf 16 (some rTx16)) (re_lf 18 (some rTx18))))) (re_br 27 (re_br 22 (re_br 20 (re_lf 19 (some rTx19)) (re_lf 20 (some rTx20))) (re_br 25 (re_lf 22 (some rTx22)) (re_lf 25 (some rTx25)))) (re_br 29 (re_br 28 (re_lf 27 (some rTx27)) (re_lf 28 (some rTx28))) (re_br 34 (re_lf 29 (some rTx29)) (re_lf 34 (some rTx34)))))) y).getD (fun _ => none) i else none
def rEcl : List (Nat × Nat × Option Nat) := [(3, 9, none), (4, 2, none), (5, 5, none), (6, 10, none), (7, 1, none)]
def rEc (j ci : Nat) : Bool := rEcl.any fun q => Nat.beq q.1 j && Nat.beq q.2.1 ci
def rCodeAt : Nat → Nat := fun y => ((re_br 256 (re_br 33 (re_br 16 (re_br 8 (re_br 4 (re_br 2 (re_br 1 (re_lf 0 (some 58)) (re_lf 1 (some 368))) (re_br 3 (re_lf 2 (some 372)) (re_lf 3 (some 494)))) (re_br 6 (re_br 5 (re_lf 4 (some 498)) (re_lf 5 (some 502))) (re_br 7 (re_lf 6 (some 522)) (re_lf 7 (some 526))))) (re_br 12 (re_br 10 (re_br 9 (re_lf 8 (some 531)) (re_lf 9 (some 535))) (re_br 11 (re_lf 10 (some 541)) (re_lf 11 (some 545)))) (re_br 14 (re_br 13 (re_lf 12 (some 565)) (re_lf 13 (some 569))) (re_br 15 (re_lf 14 (some 573)) (re_lf 15 (some 577)))))) (re_br 24 (re_br 20 (re_br 18 (re_br 17 (re_lf 16 (some 581)) (re_lf 17 (some 614))) (re_br 19 (re_lf 18 (some 843)) (re_lf 19 (some 847)))) (re_br 22 (re_br 21 (re_lf 20 (some 863)) (re_lf 21 (some 872))) (re_br 23 (re_lf 22 (some 900)) (re_lf 23 (some 936))))) (re_br 28 (re_br 26 (re_br 25 (re_lf 24 (some 940)) (re_lf 25 (some 944))) (re_br 27 (re_lf 26 (some 949)) (re_lf 27 (some 954)))) (re_br 30 (re_br 29 (re_lf 28 (some 968)) (re_lf 29 (some 972))) (re_br 31 (re_lf 30 (some 984)) (re_br 32 (re_lf 31 (some 988)) (re_lf 32 (some 993)))))))) (re_br 130 (re_br 65 (re_br 37 (re_br 35 (re_br 34 (re_lf 33 (some 1001)) (re_lf 34 (some 1006))) (re_br 36 (re_lf 35 (some 1012)) (re_lf 36 (some 1021)))) (re_br 39 (re_br 38 (re_lf 37 (some 1025)) (re_lf 38 (some 1029))) (re_br 64 (re_lf 39 (some 1033)) (re_lf 64 (some 68))))) (re_br 69 (re_br 67 (re_br 66 (re_lf 65 (some 622)) (re_lf 66 (some 876))) (re_br 68 (re_lf 67 (some 904)) (re_lf 68 (some 914)))) (re_br 71 (re_br 70 (re_lf 69 (some 959)) (re_lf 70 (some 963))) (re_br 128 (re_lf 71 (some 978)) (re_br 129 (re_lf 128 (some 75)) (re_lf 129 (some 598))))))) (re_br 138 (re_br 134 (re_br 132 (re_br 131 (re_lf 130 (some 610)) (re_lf 131 (some 638))) (re_br 133 (re_lf 132 (some 646)) (re_lf 133 (some 650)))) (re_br 136 (re_br 135 (re_lf 134 (some 698)) (re_lf 135 (some 853))) (re_br 137 (re_lf 136 (some 858)) (re_lf 137 (some 868))))) (re_br 193 (re_br 140 (re_br 139 (re_lf 138 (some 880)) (re_lf 139 (some 908))) (re_br 192 (re_lf 140 (some 918)) (re_lf 192 (some 111)))) (re_br 195 (re_br 194 (re_lf 193 (some 586)) (re_lf 194 (some 590))) (re_br 196 (re_lf 195 (some 594)) (re_br 197 (re_lf 196 (some 602)) (re_lf 197 (some 606))))))))) (re_br 463 (re_br 387 (re_br 327 (re_br 323 (re_br 321 (re_br 320 (re_lf 256 (some 146)) (re_lf 320 (some 166))) (re_br 322 (re_lf 321 (some 634)) (re_lf 322 (some 662)))) (re_br 325 (re_br 324 (re_lf 323 (some 666)) (re_lf 324 (some 674))) (re_br 326 (re_lf 325 (some 678)) (re_lf 326 (some 686))))) (re_br 331 (re_br 329 (re_br 328 (re_lf 327 (some 690)) (re_lf 328 (some 694))) (re_br 330 (re_lf 329 (some 723)) (re_lf 330 (some 727)))) (re_br 384 (re_br 332 (re_lf 331 (some 839)) (re_lf 332 (some 888))) (re_br 385 (re_lf 384 (some 214)) (re_br 386 (re_lf 385 (some 706)) (re_lf 386 (some 710))))))) (re_br 454 (re_br 450 (re_br 448 (re_br 388 (re_lf 387 (some 715)) (re_lf 388 (some 735))) (re_br 449 (re_lf 448 (some 239)) (re_lf 449 (some 702)))) (re_br 452 (re_br 451 (re_lf 450 (some 731)) (re_lf 451 (some 776))) (re_br 453 (re_lf 452 (some 780)) (re_lf 453 (some 785))))) (re_br 458 (re_br 456 (re_br 455 (re_lf 454 (some 789)) (re_lf 455 (some 799))) (re_br 457 (re_lf 456 (some 803)) (re_lf 457 (some 807)))) (re_br 460 (re_br 459 (re_lf 458 (some 811)) (re_lf 459 (some 815))) (re_br 461 (re_lf 460 (some 819)) (re_br 462 (re_lf 461 (some 823)) (re_lf 462 (some 827)))))))) (re_br 579 (re_br 518 (re_br 514 (re_br 512 (re_br 464 (re_lf 463 (some 831)) (re_lf 464 (some 835))) (re_br 513 (re_lf 512 (some 291)) (re_lf 513 (some 618)))) (re_br 516 (re_br 515 (re_lf 514 (some 626)) (re_lf 515 (some 630))) (re_br 517 (re_lf 516 (some 654)) (re_lf 517 (some 658))))) (re_br 522 (re_br 520 (re_br 519 (re_lf 518 (some 670)) (re_lf 519 (some 682))) (re_br 521 (re_lf 520 (some 719)) (re_lf 521 (some 884)))) (re_br 576 (re_br 523 (re_lf 522 (some 997)) (re_lf 523 (some 1016))) (re_br 577 (re_lf 576 (some 346)) (re_br 578 (re_lf 577 (some 351)) (re_lf 578 (some 354))))))) (re_br 587 (re_br 583 (re_br 581 (re_br 580 (re_lf 579 (some 358)) (re_lf 580 (some 364))) (re_br 582 (re_lf 581 (some 1046)) (re_lf 582 (some 1050)))) (re_br 585 (re_br 584 (re_lf 583 (some 1053)) (re_lf 584 (some 1057))) (re_br 586 (re_lf 585 (some 1060)) (re_lf 586 (some 1066))))) (re_br 642 (re_br 640 (re_br 588 (re_lf 587 (some 1069)) (re_lf 588 (some 0))) (re_br 641 (re_lf 640 (some 444)) (re_lf 641 (some 641)))) (re_br 644 (re_br 643 (re_lf 642 (some 921)) (re_lf 643 (some 925))) (re_br 704 (re_lf 644 (some 929)) (re_br 768 (re_lf 704 (some 740)) (re_lf 768 (some 893)))))))))) y).getD 0
def rIniAt : Nat → Nat := fun y => ((re_br 256 (re_br 33 (re_br 16 (re_br 8 (re_br 4 (re_br 2 (re_br 1 (re_lf 0 (some 35)) (re_lf 1 (some 35))) (re_br 3 (re_lf 2 (some 35)) (re_lf 3 (some 35)))) (re_br 6 (re_br 5 (re_lf 4 (some 35)) (re_lf 5 (some 35))) (re_br 7 (re_lf 6 (some 35)) (re_lf 7 (some 35))))) (re_br 12 (re_br 10 (re_br 9 (re_lf 8 (some 35)) (re_lf 9 (some 35))) (re_br 11 (re_lf 10 (some 35)) (re_lf 11 (some 35)))) (re_br 14 (re_br 13 (re_lf 12 (some 35)) (re_lf 13 (some 35))) (re_br 15 (re_lf 14 (some 35)) (re_lf 15 (some 35)))))) (re_br 24 (re_br 20 (re_br 18 (re_br 17 (re_lf 16 (some 35)) (re_lf 17 (some 35))) (re_br 19 (re_lf 18 (some 35)) (re_lf 19 (some 35)))) (re_br 22 (re_br 21 (re_lf 20 (some 35)) (re_lf 21 (some 35))) (re_br 23 (re_lf 22 (some 35)) (re_lf 23 (some 35))))) (re_br 28 (re_br 26 (re_br 25 (re_lf 24 (some 35)) (re_lf 25 (some 35))) (re_br 27 (re_lf 26 (some 35)) (re_lf 27 (some 35)))) (re_br 30 (re_br 29 (re_lf 28 (some 35)) (re_lf 29 (some 35))) (re_br 31 (re_lf 30 (some 35)) (re_br 32 (re_lf 31 (some 35)) (re_lf 32 (some 35)))))))) (re_br 130 (re_br 65 (re_br 37 (re_br 35 (re_br 34 (re_lf 33 (some 35)) (re_lf 34 (some 35))) (re_br 36 (re_lf 35 (some 35)) (re_lf 36 (some 35)))) (re_br 39 (re_br 38 (re_lf 37 (some 35)) (re_lf 38 (some 35))) (re_br 64 (re_lf 39 (some 35)) (re_lf 64 (some 36))))) (re_br 69 (re_br 67 (re_br 66 (re_lf 65 (some 36)) (re_lf 66 (some 36))) (re_br 68 (re_lf 67 (some 36)) (re_lf 68 (some 36)))) (re_br 71 (re_br 70 (re_lf 69 (some 36)) (re_lf 70 (some 36))) (re_br 128 (re_lf 71 (some 36)) (re_br 129 (re_lf 128 (some 37)) (re_lf 129 (some 37))))))) (re_br 138 (re_br 134 (re_br 132 (re_br 131 (re_lf 130 (some 37)) (re_lf 131 (some 37))) (re_br 133 (re_lf 132 (some 37)) (re_lf 133 (some 37)))) (re_br 136 (re_br 135 (re_lf 134 (some 37)) (re_lf 135 (some 37))) (re_br 137 (re_lf 136 (some 37)) (re_lf 137 (some 37))))) (re_br 193 (re_br 140 (re_br 139 (re_lf 138 (some 37)) (re_lf 139 (some 37))) (re_br 192 (re_lf 140 (some 37)) (re_lf 192 (some 38)))) (re_br 195 (re_br 194 (re_lf 193 (some 38)) (re_lf 194 (some 38))) (re_br 196 (re_lf 195 (some 38)) (re_br 197 (re_lf 196 (some 38)) (re_lf 197 (some 38))))))))) (re_br 463 (re_br 387 (re_br 327 (re_br 323 (re_br 321 (re_br 320 (re_lf 256 (some 39)) (re_lf 320 (some 40))) (re_br 322 (re_lf 321 (some 40)) (re_lf 322 (some 40)))) (re_br 325 (re_br 324 (re_lf 323 (some 40)) (re_lf 324 (some 40))) (re_br 326 (re_lf 325 (some 40)) (re_lf 326 (some 40))))) (re_br 331 (re_br 329 (re_br 328 (re_lf 327 (some 40)) (re_lf 328 (some 40))) (re_br 330 (re_lf 329 (some 40)) (re_lf 330 (some 40)))) (re_br 384 (re_br 332 (re_lf 331 (some 40)) (re_lf 332 (some 40))) (re_br 385 (re_lf 384 (some 41)) (re_br 386 (re_lf 385 (some 41)) (re_lf 386 (some 41))))))) (re_br 454 (re_br 450 (re_br 448 (re_br 388 (re_lf 387 (some 41)) (re_lf 388 (some 41))) (re_br 449 (re_lf 448 (some 42)) (re_lf 449 (some 42)))) (re_br 452 (re_br 451 (re_lf 450 (some 42)) (re_lf 451 (some 42))) (re_br 453 (re_lf 452 (some 42)) (re_lf 453 (some 42))))) (re_br 458 (re_br 456 (re_br 455 (re_lf 454 (some 42)) (re_lf 455 (some 42))) (re_br 457 (re_lf 456 (some 42)) (re_lf 457 (some 42)))) (re_br 460 (re_br 459 (re_lf 458 (some 42)) (re_lf 459 (some 42))) (re_br 461 (re_lf 460 (some 42)) (re_br 462 (re_lf 461 (some 42)) (re_lf 462 (some 42)))))))) (re_br 579 (re_br 518 (re_br 514 (re_br 512 (re_br 464 (re_lf 463 (some 42)) (re_lf 464 (some 42))) (re_br 513 (re_lf 512 (some 43)) (re_lf 513 (some 43)))) (re_br 516 (re_br 515 (re_lf 514 (some 43)) (re_lf 515 (some 43))) (re_br 517 (re_lf 516 (some 43)) (re_lf 517 (some 43))))) (re_br 522 (re_br 520 (re_br 519 (re_lf 518 (some 43)) (re_lf 519 (some 43))) (re_br 521 (re_lf 520 (some 43)) (re_lf 521 (some 43)))) (re_br 576 (re_br 523 (re_lf 522 (some 43)) (re_lf 523 (some 43))) (re_br 577 (re_lf 576 (some 34)) (re_br 578 (re_lf 577 (some 34)) (re_lf 578 (some 34))))))) (re_br 587 (re_br 583 (re_br 581 (re_br 580 (re_lf 579 (some 34)) (re_lf 580 (some 34))) (re_br 582 (re_lf 581 (some 34)) (re_lf 582 (some 34)))) (re_br 585 (re_br 584 (re_lf 583 (some 34)) (re_lf 584 (some 34))) (re_br 586 (re_lf 585 (some 34)) (re_lf 586 (some 34))))) (re_br 642 (re_br 640 (re_br 588 (re_lf 587 (some 34)) (re_lf 588 (some 34))) (re_br 641 (re_lf 640 (some 48)) (re_lf 641 (some 48)))) (re_br 644 (re_br 643 (re_lf 642 (some 48)) (re_lf 643 (some 48))) (re_br 704 (re_lf 644 (some 48)) (re_br 768 (re_lf 704 (some 51)) (re_lf 768 (some 53)))))))))) y).getD 0
def rObjAt : Nat × Nat := (60, 61)
def rArrAt : List Nat := [95, 160, 94]
def rLy : List (List Nat) := [[321, 323, 325, 327, 329, 331, 333, 335, 337, 339, 341], [102, 104], [87, 89, 91], [127, 129, 131, 133, 135, 137, 139], [155, 157], [187, 189, 191, 193, 195, 197, 199, 201, 203, 205, 207], [222, 224, 226, 228, 230, 232], [258, 260, 262, 264, 266, 268, 270, 272, 274, 276, 278, 280, 282, 284], [298, 300, 302, 304, 306], [468, 470, 472, 474, 476, 478, 480, 482, 484, 486, 488], [756, 758, 760, 762, 764, 766, 768, 770]]
def rUs : List (Nat → FieldType) := [rU0, rU1, rU2, rU3, rU4, rU5, rU6, rU7, rU8, rU9, rU10]
def rYa : Nat → Nat := fun y => ((re_br 256 (re_br 33 (re_br 16 (re_br 8 (re_br 4 (re_br 2 (re_br 1 (re_lf 0 (some 0)) (re_lf 1 (some 1))) (re_br 3 (re_lf 2 (some 0)) (re_lf 3 (some 1)))) (re_br 6 (re_br 5 (re_lf 4 (some 1)) (re_lf 5 (some 1))) (re_br 7 (re_lf 6 (some 1)) (re_lf 7 (some 1))))) (re_br 12 (re_br 10 (re_br 9 (re_lf 8 (some 0)) (re_lf 9 (some 1))) (re_br 11 (re_lf 10 (some 0)) (re_lf 11 (some 1)))) (re_br 14 (re_br 13 (re_lf 12 (some 0)) (re_lf 13 (some 1))) (re_br 15 (re_lf 14 (some 1)) (re_lf 15 (some 0)))))) (re_br 24 (re_br 20 (re_br 18 (re_br 17 (re_lf 16 (some 0)) (re_lf 17 (some 0))) (re_br 19 (re_lf 18 (some 2)) (re_lf 19 (some 1)))) (re_br 22 (re_br 21 (re_lf 20 (some 2)) (re_lf 21 (some 1))) (re_br 23 (re_lf 22 (some 2)) (re_lf 23 (some 2))))) (re_br 28 (re_br 26 (re_br 25 (re_lf 24 (some 1)) (re_lf 25 (some 1))) (re_br 27 (re_lf 26 (some 1)) (re_lf 27 (some 0)))) (re_br 30 (re_br 29 (re_lf 28 (some 2)) (re_lf 29 (some 1))) (re_br 31 (re_lf 30 (some 1)) (re_br 32 (re_lf 31 (some 1)) (re_lf 32 (some 1)))))))) (re_br 130 (re_br 65 (re_br 37 (re_br 35 (re_br 34 (re_lf 33 (some 2)) (re_lf 34 (some 2))) (re_br 36 (re_lf 35 (some 2)) (re_lf 36 (some 1)))) (re_br 39 (re_br 38 (re_lf 37 (some 1)) (re_lf 38 (some 1))) (re_br 64 (re_lf 39 (some 1)) (re_lf 64 (some 0))))) (re_br 69 (re_br 67 (re_br 66 (re_lf 65 (some 0)) (re_lf 66 (some 1))) (re_br 68 (re_lf 67 (some 1)) (re_lf 68 (some 2)))) (re_br 71 (re_br 70 (re_lf 69 (some 1)) (re_lf 70 (some 2))) (re_br 128 (re_lf 71 (some 2)) (re_br 129 (re_lf 128 (some 0)) (re_lf 129 (some 0))))))) (re_br 138 (re_br 134 (re_br 132 (re_br 131 (re_lf 130 (some 0)) (re_lf 131 (some 1))) (re_br 133 (re_lf 132 (some 0)) (re_lf 133 (some 0)))) (re_br 136 (re_br 135 (re_lf 134 (some 1)) (re_lf 135 (some 1))) (re_br 137 (re_lf 136 (some 2)) (re_lf 137 (some 1))))) (re_br 193 (re_br 140 (re_br 139 (re_lf 138 (some 0)) (re_lf 139 (some 0))) (re_br 192 (re_lf 140 (some 2)) (re_lf 192 (some 1)))) (re_br 195 (re_br 194 (re_lf 193 (some 0)) (re_lf 194 (some 0))) (re_br 196 (re_lf 195 (some 0)) (re_br 197 (re_lf 196 (some 0)) (re_lf 197 (some 1))))))))) (re_br 463 (re_br 387 (re_br 327 (re_br 323 (re_br 321 (re_br 320 (re_lf 256 (some 0)) (re_lf 320 (some 0))) (re_br 322 (re_lf 321 (some 2)) (re_lf 322 (some 1)))) (re_br 325 (re_br 324 (re_lf 323 (some 1)) (re_lf 324 (some 1))) (re_br 326 (re_lf 325 (some 3)) (re_lf 326 (some 1))))) (re_br 331 (re_br 329 (re_br 328 (re_lf 327 (some 0)) (re_lf 328 (some 2))) (re_br 330 (re_lf 329 (some 3)) (re_lf 330 (some 1)))) (re_br 384 (re_br 332 (re_lf 331 (some 3)) (re_lf 332 (some 0))) (re_br 385 (re_lf 384 (some 1)) (re_br 386 (re_lf 385 (some 0)) (re_lf 386 (some 1))))))) (re_br 454 (re_br 450 (re_br 448 (re_br 388 (re_lf 387 (some 0)) (re_lf 388 (some 4))) (re_br 449 (re_lf 448 (some 2)) (re_lf 449 (some 1)))) (re_br 452 (re_br 451 (re_lf 450 (some 3)) (re_lf 451 (some 1))) (re_br 453 (re_lf 452 (some 3)) (re_lf 453 (some 2))))) (re_br 458 (re_br 456 (re_br 455 (re_lf 454 (some 0)) (re_lf 455 (some 2))) (re_br 457 (re_lf 456 (some 1)) (re_lf 457 (some 2)))) (re_br 460 (re_br 459 (re_lf 458 (some 2)) (re_lf 459 (some 0))) (re_br 461 (re_lf 460 (some 2)) (re_br 462 (re_lf 461 (some 2)) (re_lf 462 (some 2)))))))) (re_br 579 (re_br 518 (re_br 514 (re_br 512 (re_br 464 (re_lf 463 (some 0)) (re_lf 464 (some 0))) (re_br 513 (re_lf 512 (some 5)) (re_lf 513 (some 1)))) (re_br 516 (re_br 515 (re_lf 514 (some 1)) (re_lf 515 (some 1))) (re_br 517 (re_lf 516 (some 1)) (re_lf 517 (some 2))))) (re_br 522 (re_br 520 (re_br 519 (re_lf 518 (some 2)) (re_lf 519 (some 1))) (re_br 521 (re_lf 520 (some 2)) (re_lf 521 (some 1)))) (re_br 576 (re_br 523 (re_lf 522 (some 0)) (re_lf 523 (some 0))) (re_br 577 (re_lf 576 (some 2)) (re_br 578 (re_lf 577 (some 2)) (re_lf 578 (some 2))))))) (re_br 587 (re_br 583 (re_br 581 (re_br 580 (re_lf 579 (some 4)) (re_lf 580 (some 4))) (re_br 582 (re_lf 581 (some 5)) (re_lf 582 (some 4)))) (re_br 585 (re_br 584 (re_lf 583 (some 3)) (re_lf 584 (some 4))) (re_br 586 (re_lf 585 (some 5)) (re_lf 586 (some 5))))) (re_br 642 (re_br 640 (re_br 588 (re_lf 587 (some 2)) (re_lf 588 (some 1))) (re_br 641 (re_lf 640 (some 6)) (re_lf 641 (some 2)))) (re_br 644 (re_br 643 (re_lf 642 (some 2)) (re_lf 643 (some 1))) (re_br 704 (re_lf 644 (some 3)) (re_br 768 (re_lf 704 (some 0)) (re_lf 768 (some 1)))))))))) y).getD 0
def rTp : Nat → Nat → Option (Nat × Nat × Nat) := fun y => ((re_br 19 (re_br 9 (re_br 5 (re_lf 2 (some ((re_lf 9 (some (373, 47, 415)))))) (re_br 7 (re_lf 5 (some ((re_lf 10 (some (503, 49, 513)))))) (re_lf 7 (some ((re_lf 9 (some (503, 49, 513)))))))) (re_br 16 (re_br 11 (re_lf 9 (some ((re_br 73 (re_lf 8 (some (373, 47, 415))) (re_lf 73 (some (373, 47, 415))))))) (re_lf 11 (some ((re_lf 9 (some (546, 50, 556))))))) (re_br 18 (re_lf 16 (some ((re_lf 9 (some (373, 47, 415)))))) (re_lf 18 (some ((re_br 53 (re_lf 27 (some (373, 47, 415))) (re_lf 53 (some (373, 47, 415)))))))))) (re_br 27 (re_br 22 (re_br 20 (re_lf 19 (some ((re_lf 22 (some (503, 49, 513)))))) (re_lf 20 (some ((re_lf 32 (some (373, 47, 415))))))) (re_br 25 (re_lf 22 (some ((re_lf 26 (some (373, 47, 415)))))) (re_lf 25 (some ((re_lf 9 (some (546, 50, 556)))))))) (re_br 29 (re_br 28 (re_lf 27 (some ((re_lf 8 (some (373, 47, 415)))))) (re_lf 28 (some ((re_lf 18 (some (503, 49, 513))))))) (re_br 34 (re_lf 29 (some ((re_lf 27 (some (503, 49, 513)))))) (re_lf 34 (some ((re_lf 28 (some (373, 47, 415)))))))))) y).getD (fun _ => none)
def rThs : List (Nat × Nat) := [(2, 9), (5, 10), (7, 9), (9, 8), (9, 73), (11, 9), (16, 9), (18, 27), (18, 53), (19, 22), (20, 32), (22, 26), (25, 9), (27, 8), (28, 18), (29, 27), (34, 28)]
def rTWd : List Cond := [.declares ⟨"java/lang/RuntimeException", "<init>", "()V"⟩, .declares ⟨"java/lang/RuntimeException", "<init>", "(Ljava/lang/String;)V"⟩, .declares ⟨"java/lang/Exception", "<init>", "()V"⟩, .declares ⟨"java/lang/Exception", "<init>", "(Ljava/lang/String;)V"⟩, .declares ⟨"java/lang/Throwable", "<init>", "()V"⟩, .declares ⟨"java/lang/Throwable", "<init>", "(Ljava/lang/String;)V"⟩]
def rTWdat : List Nat := [376, 377, 378, 379, 380, 381]
def rG : re_G := (fun y pc => bif Nat.blt pc (rYs y) then rIns y pc else none, rYl, rYr, fun y idx => rFl (Nat.div y 64) idx, fun y idx => rCa (Nat.div y 64) idx, fun y idx => rNw (Nat.div y 64) idx, fun y idx => rAn (Nat.div y 64) idx, rTx, fun y idx => rKs (Nat.div y 64) idx, rEc, rYi, rYc, 8, rHh, fun y t => rHk (Nat.div y 64) t, fun y idx => rJd (Nat.div y 64) idx)
def rN : re_N := (rYn, rYb, lw_tbl.filter goodWord, rCl, rE, rSL, rXn, rTW ++ rTWd)
end
section
/-! The tables are right: checks by evaluation. -/
def re_wat (i : Nat) (w : Cond) : Bool := decide (lw_tbl[i]? = some w) && goodWord w
theorem re_wat_ok {i : Nat} {w : Cond} (h : re_wat i w = true) : w ∈ lw_tbl.filter goodWord := by
  unfold re_wat at h
  simp only [Bool.and_eq_true, decide_eq_true_eq] at h
  exact List.mem_filter.mpr ⟨List.mem_of_getElem? h.1, h.2⟩
theorem re_blt_ge {a b : Nat} (h : b ≤ a) : Nat.blt a b = false := by
  cases hz : Nat.blt a b with
  | false => rfl
  | true => exact absurd (Nat.le_of_ble_eq_true hz) (by omega)
theorem re_blt_lt {a b : Nat} (h : Nat.blt a b = true) : a < b := Nat.le_of_ble_eq_true h
theorem re_sz_0 : (List.range 50).all (fun k => (fun y => rIds.contains y || Nat.beq (rYs y) 0) (k + 50 * 0)) = true := by decide +kernel
theorem re_sz_1 : (List.range 50).all (fun k => (fun y => rIds.contains y || Nat.beq (rYs y) 0) (k + 50 * 1)) = true := by decide +kernel
theorem re_sz_2 : (List.range 50).all (fun k => (fun y => rIds.contains y || Nat.beq (rYs y) 0) (k + 50 * 2)) = true := by decide +kernel
theorem re_sz_3 : (List.range 50).all (fun k => (fun y => rIds.contains y || Nat.beq (rYs y) 0) (k + 50 * 3)) = true := by decide +kernel
theorem re_sz_4 : (List.range 50).all (fun k => (fun y => rIds.contains y || Nat.beq (rYs y) 0) (k + 50 * 4)) = true := by decide +kernel
theorem re_sz_5 : (List.range 50).all (fun k => (fun y => rIds.contains y || Nat.beq (rYs y) 0) (k + 50 * 5)) = true := by decide +kernel
theorem re_sz_6 : (List.range 50).all (fun k => (fun y => rIds.contains y || Nat.beq (rYs y) 0) (k + 50 * 6)) = true := by decide +kernel
theorem re_sz_7 : (List.range 50).all (fun k => (fun y => rIds.contains y || Nat.beq (rYs y) 0) (k + 50 * 7)) = true := by decide +kernel
theorem re_sz_8 : (List.range 50).all (fun k => (fun y => rIds.contains y || Nat.beq (rYs y) 0) (k + 50 * 8)) = true := by decide +kernel
theorem re_sz_9 : (List.range 50).all (fun k => (fun y => rIds.contains y || Nat.beq (rYs y) 0) (k + 50 * 9)) = true := by decide +kernel
theorem re_sz_10 : (List.range 50).all (fun k => (fun y => rIds.contains y || Nat.beq (rYs y) 0) (k + 50 * 10)) = true := by decide +kernel
theorem re_sz_11 : (List.range 50).all (fun k => (fun y => rIds.contains y || Nat.beq (rYs y) 0) (k + 50 * 11)) = true := by decide +kernel
theorem re_sz_12 : (List.range 50).all (fun k => (fun y => rIds.contains y || Nat.beq (rYs y) 0) (k + 50 * 12)) = true := by decide +kernel
theorem re_sz_13 : (List.range 50).all (fun k => (fun y => rIds.contains y || Nat.beq (rYs y) 0) (k + 50 * 13)) = true := by decide +kernel
theorem re_sz_14 : (List.range 50).all (fun k => (fun y => rIds.contains y || Nat.beq (rYs y) 0) (k + 50 * 14)) = true := by decide +kernel
theorem re_sz_15 : (List.range 50).all (fun k => (fun y => rIds.contains y || Nat.beq (rYs y) 0) (k + 50 * 15)) = true := by decide +kernel
theorem re_sz_16 : (List.range 50).all (fun k => (fun y => rIds.contains y || Nat.beq (rYs y) 0) (k + 50 * 16)) = true := by decide +kernel
theorem re_sz_17 : (List.range 50).all (fun k => (fun y => rIds.contains y || Nat.beq (rYs y) 0) (k + 50 * 17)) = true := by decide +kernel
theorem re_sz_18 : (List.range 50).all (fun k => (fun y => rIds.contains y || Nat.beq (rYs y) 0) (k + 50 * 18)) = true := by decide +kernel
theorem re_sz_19 : (List.range 50).all (fun k => (fun y => rIds.contains y || Nat.beq (rYs y) 0) (k + 50 * 19)) = true := by decide +kernel
theorem re_sz_20 : (List.range 50).all (fun k => (fun y => rIds.contains y || Nat.beq (rYs y) 0) (k + 50 * 20)) = true := by decide +kernel
theorem re_sz_21 : (List.range 50).all (fun k => (fun y => rIds.contains y || Nat.beq (rYs y) 0) (k + 50 * 21)) = true := by decide +kernel
theorem re_sz_22 : (List.range 50).all (fun k => (fun y => rIds.contains y || Nat.beq (rYs y) 0) (k + 50 * 22)) = true := by decide +kernel
theorem re_sz_23 : (List.range 50).all (fun k => (fun y => rIds.contains y || Nat.beq (rYs y) 0) (k + 50 * 23)) = true := by decide +kernel
theorem re_sz_24 : (List.range 50).all (fun k => (fun y => rIds.contains y || Nat.beq (rYs y) 0) (k + 50 * 24)) = true := by decide +kernel
theorem re_sz_25 : (List.range 50).all (fun k => (fun y => rIds.contains y || Nat.beq (rYs y) 0) (k + 50 * 25)) = true := by decide +kernel
theorem re_sz_26 : (List.range 50).all (fun k => (fun y => rIds.contains y || Nat.beq (rYs y) 0) (k + 50 * 26)) = true := by decide +kernel
theorem re_sz_27 : (List.range 50).all (fun k => (fun y => rIds.contains y || Nat.beq (rYs y) 0) (k + 50 * 27)) = true := by decide +kernel
theorem re_sz_28 : (List.range 50).all (fun k => (fun y => rIds.contains y || Nat.beq (rYs y) 0) (k + 50 * 28)) = true := by decide +kernel
theorem re_sz : (List.range 1408).all (fun y => rIds.contains y || Nat.beq (rYs y) 0) = true := re_big (m := 29) (by decide +kernel) (fun i hi => match i, hi with
  | 0, _ => re_sz_0
  | 1, _ => re_sz_1
  | 2, _ => re_sz_2
  | 3, _ => re_sz_3
  | 4, _ => re_sz_4
  | 5, _ => re_sz_5
  | 6, _ => re_sz_6
  | 7, _ => re_sz_7
  | 8, _ => re_sz_8
  | 9, _ => re_sz_9
  | 10, _ => re_sz_10
  | 11, _ => re_sz_11
  | 12, _ => re_sz_12
  | 13, _ => re_sz_13
  | 14, _ => re_sz_14
  | 15, _ => re_sz_15
  | 16, _ => re_sz_16
  | 17, _ => re_sz_17
  | 18, _ => re_sz_18
  | 19, _ => re_sz_19
  | 20, _ => re_sz_20
  | 21, _ => re_sz_21
  | 22, _ => re_sz_22
  | 23, _ => re_sz_23
  | 24, _ => re_sz_24
  | 25, _ => re_sz_25
  | 26, _ => re_sz_26
  | 27, _ => re_sz_27
  | 28, _ => re_sz_28
  | i + 29, h => absurd h (by omega))
theorem re_cls0_0 : (List.range 50).all (fun k => (fun y => decide ((rYn y).cls = rCn (Nat.div y 64))) (k + 50 * 0)) = true := by decide +kernel
theorem re_cls0_1 : (List.range 50).all (fun k => (fun y => decide ((rYn y).cls = rCn (Nat.div y 64))) (k + 50 * 1)) = true := by decide +kernel
theorem re_cls0_2 : (List.range 50).all (fun k => (fun y => decide ((rYn y).cls = rCn (Nat.div y 64))) (k + 50 * 2)) = true := by decide +kernel
theorem re_cls0_3 : (List.range 50).all (fun k => (fun y => decide ((rYn y).cls = rCn (Nat.div y 64))) (k + 50 * 3)) = true := by decide +kernel
theorem re_cls0_4 : (List.range 50).all (fun k => (fun y => decide ((rYn y).cls = rCn (Nat.div y 64))) (k + 50 * 4)) = true := by decide +kernel
theorem re_cls0_5 : (List.range 50).all (fun k => (fun y => decide ((rYn y).cls = rCn (Nat.div y 64))) (k + 50 * 5)) = true := by decide +kernel
theorem re_cls0_6 : (List.range 50).all (fun k => (fun y => decide ((rYn y).cls = rCn (Nat.div y 64))) (k + 50 * 6)) = true := by decide +kernel
theorem re_cls0_7 : (List.range 50).all (fun k => (fun y => decide ((rYn y).cls = rCn (Nat.div y 64))) (k + 50 * 7)) = true := by decide +kernel
theorem re_cls0_8 : (List.range 50).all (fun k => (fun y => decide ((rYn y).cls = rCn (Nat.div y 64))) (k + 50 * 8)) = true := by decide +kernel
theorem re_cls0_9 : (List.range 50).all (fun k => (fun y => decide ((rYn y).cls = rCn (Nat.div y 64))) (k + 50 * 9)) = true := by decide +kernel
theorem re_cls0_10 : (List.range 50).all (fun k => (fun y => decide ((rYn y).cls = rCn (Nat.div y 64))) (k + 50 * 10)) = true := by decide +kernel
theorem re_cls0_11 : (List.range 50).all (fun k => (fun y => decide ((rYn y).cls = rCn (Nat.div y 64))) (k + 50 * 11)) = true := by decide +kernel
theorem re_cls0_12 : (List.range 50).all (fun k => (fun y => decide ((rYn y).cls = rCn (Nat.div y 64))) (k + 50 * 12)) = true := by decide +kernel
theorem re_cls0_13 : (List.range 50).all (fun k => (fun y => decide ((rYn y).cls = rCn (Nat.div y 64))) (k + 50 * 13)) = true := by decide +kernel
theorem re_cls0_14 : (List.range 50).all (fun k => (fun y => decide ((rYn y).cls = rCn (Nat.div y 64))) (k + 50 * 14)) = true := by decide +kernel
theorem re_cls0_15 : (List.range 50).all (fun k => (fun y => decide ((rYn y).cls = rCn (Nat.div y 64))) (k + 50 * 15)) = true := by decide +kernel
theorem re_cls0_16 : (List.range 50).all (fun k => (fun y => decide ((rYn y).cls = rCn (Nat.div y 64))) (k + 50 * 16)) = true := by decide +kernel
theorem re_cls0_17 : (List.range 50).all (fun k => (fun y => decide ((rYn y).cls = rCn (Nat.div y 64))) (k + 50 * 17)) = true := by decide +kernel
theorem re_cls0_18 : (List.range 50).all (fun k => (fun y => decide ((rYn y).cls = rCn (Nat.div y 64))) (k + 50 * 18)) = true := by decide +kernel
theorem re_cls0_19 : (List.range 50).all (fun k => (fun y => decide ((rYn y).cls = rCn (Nat.div y 64))) (k + 50 * 19)) = true := by decide +kernel
theorem re_cls0_20 : (List.range 50).all (fun k => (fun y => decide ((rYn y).cls = rCn (Nat.div y 64))) (k + 50 * 20)) = true := by decide +kernel
theorem re_cls0_21 : (List.range 50).all (fun k => (fun y => decide ((rYn y).cls = rCn (Nat.div y 64))) (k + 50 * 21)) = true := by decide +kernel
theorem re_cls0_22 : (List.range 50).all (fun k => (fun y => decide ((rYn y).cls = rCn (Nat.div y 64))) (k + 50 * 22)) = true := by decide +kernel
theorem re_cls0_23 : (List.range 50).all (fun k => (fun y => decide ((rYn y).cls = rCn (Nat.div y 64))) (k + 50 * 23)) = true := by decide +kernel
theorem re_cls0_24 : (List.range 50).all (fun k => (fun y => decide ((rYn y).cls = rCn (Nat.div y 64))) (k + 50 * 24)) = true := by decide +kernel
theorem re_cls0_25 : (List.range 50).all (fun k => (fun y => decide ((rYn y).cls = rCn (Nat.div y 64))) (k + 50 * 25)) = true := by decide +kernel
theorem re_cls0_26 : (List.range 50).all (fun k => (fun y => decide ((rYn y).cls = rCn (Nat.div y 64))) (k + 50 * 26)) = true := by decide +kernel
theorem re_cls0_27 : (List.range 50).all (fun k => (fun y => decide ((rYn y).cls = rCn (Nat.div y 64))) (k + 50 * 27)) = true := by decide +kernel
theorem re_cls0_28 : (List.range 50).all (fun k => (fun y => decide ((rYn y).cls = rCn (Nat.div y 64))) (k + 50 * 28)) = true := by decide +kernel
theorem re_cls0 : (List.range 1408).all (fun y => decide ((rYn y).cls = rCn (Nat.div y 64))) = true := re_big (m := 29) (by decide +kernel) (fun i hi => match i, hi with
  | 0, _ => re_cls0_0
  | 1, _ => re_cls0_1
  | 2, _ => re_cls0_2
  | 3, _ => re_cls0_3
  | 4, _ => re_cls0_4
  | 5, _ => re_cls0_5
  | 6, _ => re_cls0_6
  | 7, _ => re_cls0_7
  | 8, _ => re_cls0_8
  | 9, _ => re_cls0_9
  | 10, _ => re_cls0_10
  | 11, _ => re_cls0_11
  | 12, _ => re_cls0_12
  | 13, _ => re_cls0_13
  | 14, _ => re_cls0_14
  | 15, _ => re_cls0_15
  | 16, _ => re_cls0_16
  | 17, _ => re_cls0_17
  | 18, _ => re_cls0_18
  | 19, _ => re_cls0_19
  | 20, _ => re_cls0_20
  | 21, _ => re_cls0_21
  | 22, _ => re_cls0_22
  | 23, _ => re_cls0_23
  | 24, _ => re_cls0_24
  | 25, _ => re_cls0_25
  | 26, _ => re_cls0_26
  | 27, _ => re_cls0_27
  | 28, _ => re_cls0_28
  | i + 29, h => absurd h (by omega))
theorem re_cls_eq (y : Nat) : (rYn y).cls = rCn (Nat.div y 64) := by
  rcases Nat.lt_or_ge y 1408 with h | h
  · exact of_decide_eq_true (re_rng re_cls0 h)
  · unfold rYn
    rw [re_blt_ge h]
    rfl
theorem re_o1 : ∀ y pc ins, re_ins rG y pc = some ins → ∃ len, decode (re_yb rN y) pc = .ok (ins, len) ∧ (re_len ins = 0 ∨ len = re_len ins) := by
  intro y pc ins h
  have h : (bif Nat.blt pc (rYs y) then rIns y pc else none) = some ins := h
  cases hb : Nat.blt pc (rYs y) with
  | false => rw [hb] at h; cases h
  | true =>
    rw [hb] at h
    have hlt : pc < rYs y := re_blt_lt hb
    have hy : y ∈ rIds := by
      rcases Nat.lt_or_ge y 1408 with h9 | h9
      · have h8 := re_rng re_sz h9
        simp only [Bool.or_eq_true] at h8
        rcases h8 with h8 | h8
        · exact List.contains_iff_mem.mp h8
        · have := Nat.eq_of_beq_eq_true h8
          omega
      · have : rYs y = 0 := by unfold rYs; rw [re_blt_ge h9]; rfl
        omega
    exact re_ckI_ok (re_rng (rKall y hy) hlt) h
/-- a check over all classes and all places of a pool -/
def re_two (f : Nat → Nat → Bool) (c : Nat) : Bool := (List.range 320).all (f c)
theorem re_two_ok {f : Nat → Nat → Bool} (h : (List.range 22).all (re_two f) = true) {c i : Nat} (hc : (Nat.blt c 22 && Nat.blt i 320) = true) : f c i = true := by
  simp only [Bool.and_eq_true] at hc
  exact re_rng (re_rng h (re_blt_lt hc.1)) (re_blt_lt hc.2)
theorem re_cond {α : Type} {b : Bool} {x : Option α} {v : α} (h : (bif b then x else none) = some v) : b = true := by
  cases b
  · cases h
  · rfl
def rckF (c idx : Nat) : Bool := match rFl c idx with
  | none => true
  | some (ci, k, ty, fin) => match rCl[ci]?, rFw c idx with
    | some r, some (w, w2, ref) => decide (k < r.2.2) && (re_wat w (.fieldLink (rCn c) idx ref (r.2.1 k).2.1 (r.2.1 k).2.2.1) && ((decide (ref = (r.2.1 k).1) || re_wat w2 (.sameField ref (r.2.1 k).1 (r.2.1 k).2.1 (r.2.1 k).2.2.1)) && (decide (parseFieldDescriptor (r.2.1 k).2.2.1 = some ty) && (decide (fin = 0 → (r.2.1 k).2.2.2 = false) && decide (fin = 1 → (r.2.1 k).2.2.2 = true ∧ (r.2.1 k).1 = rCn c)))))
    | _, _ => false
theorem rckF_0 : re_two rckF 0 = true := by decide +kernel
theorem rckF_1 : re_two rckF 1 = true := by decide +kernel
theorem rckF_2 : re_two rckF 2 = true := by decide +kernel
theorem rckF_3 : re_two rckF 3 = true := by decide +kernel
theorem rckF_4 : re_two rckF 4 = true := by decide +kernel
theorem rckF_5 : re_two rckF 5 = true := by decide +kernel
theorem rckF_6 : re_two rckF 6 = true := by decide +kernel
theorem rckF_7 : re_two rckF 7 = true := by decide +kernel
theorem rckF_8 : re_two rckF 8 = true := by decide +kernel
theorem rckF_9 : re_two rckF 9 = true := by decide +kernel
theorem rckF_10 : re_two rckF 10 = true := by decide +kernel
theorem rckF_11 : re_two rckF 11 = true := by decide +kernel
theorem rckF_12 : re_two rckF 12 = true := by decide +kernel
theorem rckF_13 : re_two rckF 13 = true := by decide +kernel
theorem rckF_14 : re_two rckF 14 = true := by decide +kernel
theorem rckF_15 : re_two rckF 15 = true := by decide +kernel
theorem rckF_16 : re_two rckF 16 = true := by decide +kernel
theorem rckF_17 : re_two rckF 17 = true := by decide +kernel
theorem rckF_18 : re_two rckF 18 = true := by decide +kernel
theorem rckF_19 : re_two rckF 19 = true := by decide +kernel
theorem rckF_20 : re_two rckF 20 = true := by decide +kernel
theorem rckF_21 : re_two rckF 21 = true := by decide +kernel
theorem rckF_all : (List.range 22).all (re_two rckF) = true := by
  rw [show List.range 22 = [0, 1, 2, 3, 4, 5, 6, 7, 8, 9, 10, 11, 12, 13, 14, 15, 16, 17, 18, 19, 20, 21] from rfl]
  simp only [List.all_cons, List.all_nil, Bool.and_true, rckF_0, rckF_1, rckF_2, rckF_3, rckF_4, rckF_5, rckF_6, rckF_7, rckF_8, rckF_9, rckF_10, rckF_11, rckF_12, rckF_13, rckF_14, rckF_15, rckF_16, rckF_17, rckF_18, rckF_19, rckF_20, rckF_21]
theorem re_o2 : ∀ y idx ci k ty fin, re_fl rG y idx = some (ci, k, ty, fin) → re_okF rN y idx ci k ty fin := by
  intro y idx ci k ty fin h
  have h : rFl (Nat.div y 64) idx = some (ci, k, ty, fin) := h
  have hk : rckF (Nat.div y 64) idx = true := re_two_ok rckF_all (re_cond (by unfold rFl at h; exact h))
  unfold rckF at hk
  rw [h] at hk
  dsimp only at hk
  split at hk
  next r w w2 ref hr hw =>
    simp only [Bool.and_eq_true, Bool.or_eq_true, decide_eq_true_eq] at hk
    obtain ⟨h1, h2, h2b, h3, h4, h5⟩ := hk
    exact ⟨r, ref, hr, h1, by show Cond.fieldLink (rYn y).cls _ _ _ _ ∈ _; rw [re_cls_eq]; exact re_wat_ok h2, h2b.elim (fun z => Or.inl z) (fun z => Or.inr (re_wat_ok z)), h3, h4, fun z => ⟨(h5 z).1, by show _ = (rYn y).cls; rw [re_cls_eq]; exact (h5 z).2⟩⟩
  next => cases hk
def rckC (ci : Nat) : Bool := match rCl[ci]? with
  | none => true
  | some r => (List.range r.2.2).all (fun k => re_wat ((rLy.getD ci []).getD k 0) (u_lay r.1 r.2.1 k)) && ((List.range r.2.2).all (fun k => decide (parseFieldDescriptor (r.2.1 k).2.2.1 = some (rUs.getD ci (fun _ => .int) k))) && (List.range r.2.2).all (fun a => (List.range r.2.2).all (fun b => decide (a = b) || decide ((r.2.1 a).2.1 ≠ (r.2.1 b).2.1))))
theorem rckC_0 : rckC 0 = true := by decide +kernel
theorem rckC_1 : rckC 1 = true := by decide +kernel
theorem rckC_2 : rckC 2 = true := by decide +kernel
theorem rckC_3 : rckC 3 = true := by decide +kernel
theorem rckC_4 : rckC 4 = true := by decide +kernel
theorem rckC_5 : rckC 5 = true := by decide +kernel
theorem rckC_6 : rckC 6 = true := by decide +kernel
theorem rckC_7 : rckC 7 = true := by decide +kernel
theorem rckC_8 : rckC 8 = true := by decide +kernel
theorem rckC_9 : rckC 9 = true := by decide +kernel
theorem rckC_10 : rckC 10 = true := by decide +kernel
theorem rckC_11 : rckC 11 = true := by decide +kernel
theorem rckC_12 : rckC 12 = true := by decide +kernel
theorem rckC_13 : rckC 13 = true := by decide +kernel
theorem rckC_14 : rckC 14 = true := by decide +kernel
theorem rckC_15 : rckC 15 = true := by decide +kernel
theorem rckC_16 : rckC 16 = true := by decide +kernel
theorem rckC_17 : rckC 17 = true := by decide +kernel
theorem rckC_18 : rckC 18 = true := by decide +kernel
theorem rckC_19 : rckC 19 = true := by decide +kernel
theorem rckC_20 : rckC 20 = true := by decide +kernel
theorem rckC_21 : rckC 21 = true := by decide +kernel
theorem rckC_all : (List.range 22).all rckC = true := by
  rw [show List.range 22 = [0, 1, 2, 3, 4, 5, 6, 7, 8, 9, 10, 11, 12, 13, 14, 15, 16, 17, 18, 19, 20, 21] from rfl]
  simp only [List.all_cons, List.all_nil, Bool.and_true, rckC_0, rckC_1, rckC_2, rckC_3, rckC_4, rckC_5, rckC_6, rckC_7, rckC_8, rckC_9, rckC_10, rckC_11, rckC_12, rckC_13, rckC_14, rckC_15, rckC_16, rckC_17, rckC_18, rckC_19, rckC_20, rckC_21]
theorem rCl_len : rCl.length < 22 := by decide +kernel
theorem re_o3 : re_Cl (re_cs rN) (re_B rN) := by
  refine ⟨by have := rCl_len; show rCl.length ≤ 100; omega, fun ci r hr => ?_⟩
  have hr : rCl[ci]? = some r := hr
  have hlt : ci < 22 := by
    have h1 := (List.getElem?_eq_some_iff.mp hr).1
    have h2 := rCl_len
    omega
  have hk := re_rng rckC_all hlt
  unfold rckC at hk
  rw [hr] at hk
  simp only [Bool.and_eq_true] at hk
  obtain ⟨h1, h2, h3⟩ := hk
  refine ⟨fun w hw => ?_, ⟨_, fun k hk => of_decide_eq_true (re_rng h2 hk)⟩, fun a ha b hb hab => ?_⟩
  · unfold u_ws at hw
    obtain ⟨k, hk, rfl⟩ := List.mem_map.mp hw
    exact re_wat_ok (re_rng h1 (List.mem_range.mp hk))
  · have h4 := re_rng (re_rng h3 ha) hb
    simp only [Bool.or_eq_true, decide_eq_true_eq] at h4
    rcases h4 with h4 | h4
    · exact absurd h4 hab
    · exact h4
theorem re_o4 : re_E rN 0 = .int ∧ re_E rN 1 = .long ∧ re_E rN 2 = .boolean ∧ 3 ≤ re_nE rG ∧ ∀ j, 3 ≤ j → j < re_nE rG → ∃ nm, re_E rN j = .object nm := by
  refine ⟨rfl, rfl, rfl, by decide +kernel, fun j h1 h2 => ?_⟩
  have h3 : (List.range (re_nE rG)).all (fun j => Nat.blt j 3 || match rE j with | .object _ => true | _ => false) = true := by decide +kernel
  have h4 := re_rng h3 h2
  rw [re_blt_ge h1] at h4
  simp only [Bool.false_or] at h4
  show ∃ nm, rE j = .object nm
  split at h4
  next nm hnm => exact ⟨nm, hnm⟩
  next => cases h4
def rckE (q : Nat × Nat × Option Nat) : Bool := match rCl[q.2.1]? with
  | none => false
  | some r => match q.2.2 with
    | none => decide (rE q.1 = .object r.1)
    | some t => match rE q.1 with
      | .object nm => decide (rTW[t]? = some (.castable r.1 nm))
      | _ => false
theorem rckE_all : rEcl.all rckE = true := by decide +kernel
theorem re_o5 : ∀ j ci, re_ec rG j ci = true → ∃ r : vw_C, (re_cs rN)[ci]? = some r ∧ (re_E rN j = .object r.1 ∨ ∃ nm, re_E rN j = .object nm ∧ Cond.castable r.1 nm ∈ re_TW rN) := by
  intro j ci h
  have h : (rEcl.any fun q => Nat.beq q.1 j && Nat.beq q.2.1 ci) = true := h
  obtain ⟨⟨j2, ci2, t⟩, hq, h2⟩ := List.any_eq_true.mp h
  simp only [Bool.and_eq_true] at h2
  obtain ⟨e1, e2⟩ := h2
  cases Nat.eq_of_beq_eq_true e1
  cases Nat.eq_of_beq_eq_true e2
  have hk := List.all_eq_true.mp rckE_all _ hq
  unfold rckE at hk
  dsimp only at hk
  split at hk
  next => cases hk
  next r hr =>
    refine ⟨r, hr, ?_⟩
    split at hk
    next => exact Or.inl (of_decide_eq_true hk)
    next t9 =>
      split at hk
      next nm hnm => exact Or.inr ⟨nm, hnm, List.mem_append_left _ (List.mem_of_getElem? (of_decide_eq_true hk))⟩
      next => cases hk
theorem re_ini0_0 : (List.range 50).all (fun k => (fun y => !rYi y || decide ((rYn y).name = "<init>")) (k + 50 * 0)) = true := by decide +kernel
theorem re_ini0_1 : (List.range 50).all (fun k => (fun y => !rYi y || decide ((rYn y).name = "<init>")) (k + 50 * 1)) = true := by decide +kernel
theorem re_ini0_2 : (List.range 50).all (fun k => (fun y => !rYi y || decide ((rYn y).name = "<init>")) (k + 50 * 2)) = true := by decide +kernel
theorem re_ini0_3 : (List.range 50).all (fun k => (fun y => !rYi y || decide ((rYn y).name = "<init>")) (k + 50 * 3)) = true := by decide +kernel
theorem re_ini0_4 : (List.range 50).all (fun k => (fun y => !rYi y || decide ((rYn y).name = "<init>")) (k + 50 * 4)) = true := by decide +kernel
theorem re_ini0_5 : (List.range 50).all (fun k => (fun y => !rYi y || decide ((rYn y).name = "<init>")) (k + 50 * 5)) = true := by decide +kernel
theorem re_ini0_6 : (List.range 50).all (fun k => (fun y => !rYi y || decide ((rYn y).name = "<init>")) (k + 50 * 6)) = true := by decide +kernel
theorem re_ini0_7 : (List.range 50).all (fun k => (fun y => !rYi y || decide ((rYn y).name = "<init>")) (k + 50 * 7)) = true := by decide +kernel
theorem re_ini0_8 : (List.range 50).all (fun k => (fun y => !rYi y || decide ((rYn y).name = "<init>")) (k + 50 * 8)) = true := by decide +kernel
theorem re_ini0_9 : (List.range 50).all (fun k => (fun y => !rYi y || decide ((rYn y).name = "<init>")) (k + 50 * 9)) = true := by decide +kernel
theorem re_ini0_10 : (List.range 50).all (fun k => (fun y => !rYi y || decide ((rYn y).name = "<init>")) (k + 50 * 10)) = true := by decide +kernel
theorem re_ini0_11 : (List.range 50).all (fun k => (fun y => !rYi y || decide ((rYn y).name = "<init>")) (k + 50 * 11)) = true := by decide +kernel
theorem re_ini0_12 : (List.range 50).all (fun k => (fun y => !rYi y || decide ((rYn y).name = "<init>")) (k + 50 * 12)) = true := by decide +kernel
theorem re_ini0_13 : (List.range 50).all (fun k => (fun y => !rYi y || decide ((rYn y).name = "<init>")) (k + 50 * 13)) = true := by decide +kernel
theorem re_ini0_14 : (List.range 50).all (fun k => (fun y => !rYi y || decide ((rYn y).name = "<init>")) (k + 50 * 14)) = true := by decide +kernel
theorem re_ini0_15 : (List.range 50).all (fun k => (fun y => !rYi y || decide ((rYn y).name = "<init>")) (k + 50 * 15)) = true := by decide +kernel
theorem re_ini0_16 : (List.range 50).all (fun k => (fun y => !rYi y || decide ((rYn y).name = "<init>")) (k + 50 * 16)) = true := by decide +kernel
theorem re_ini0_17 : (List.range 50).all (fun k => (fun y => !rYi y || decide ((rYn y).name = "<init>")) (k + 50 * 17)) = true := by decide +kernel
theorem re_ini0_18 : (List.range 50).all (fun k => (fun y => !rYi y || decide ((rYn y).name = "<init>")) (k + 50 * 18)) = true := by decide +kernel
theorem re_ini0_19 : (List.range 50).all (fun k => (fun y => !rYi y || decide ((rYn y).name = "<init>")) (k + 50 * 19)) = true := by decide +kernel
theorem re_ini0_20 : (List.range 50).all (fun k => (fun y => !rYi y || decide ((rYn y).name = "<init>")) (k + 50 * 20)) = true := by decide +kernel
theorem re_ini0_21 : (List.range 50).all (fun k => (fun y => !rYi y || decide ((rYn y).name = "<init>")) (k + 50 * 21)) = true := by decide +kernel
theorem re_ini0_22 : (List.range 50).all (fun k => (fun y => !rYi y || decide ((rYn y).name = "<init>")) (k + 50 * 22)) = true := by decide +kernel
theorem re_ini0_23 : (List.range 50).all (fun k => (fun y => !rYi y || decide ((rYn y).name = "<init>")) (k + 50 * 23)) = true := by decide +kernel
theorem re_ini0_24 : (List.range 50).all (fun k => (fun y => !rYi y || decide ((rYn y).name = "<init>")) (k + 50 * 24)) = true := by decide +kernel
theorem re_ini0_25 : (List.range 50).all (fun k => (fun y => !rYi y || decide ((rYn y).name = "<init>")) (k + 50 * 25)) = true := by decide +kernel
theorem re_ini0_26 : (List.range 50).all (fun k => (fun y => !rYi y || decide ((rYn y).name = "<init>")) (k + 50 * 26)) = true := by decide +kernel
theorem re_ini0_27 : (List.range 50).all (fun k => (fun y => !rYi y || decide ((rYn y).name = "<init>")) (k + 50 * 27)) = true := by decide +kernel
theorem re_ini0_28 : (List.range 50).all (fun k => (fun y => !rYi y || decide ((rYn y).name = "<init>")) (k + 50 * 28)) = true := by decide +kernel
theorem re_ini0 : (List.range 1408).all (fun y => !rYi y || decide ((rYn y).name = "<init>")) = true := re_big (m := 29) (by decide +kernel) (fun i hi => match i, hi with
  | 0, _ => re_ini0_0
  | 1, _ => re_ini0_1
  | 2, _ => re_ini0_2
  | 3, _ => re_ini0_3
  | 4, _ => re_ini0_4
  | 5, _ => re_ini0_5
  | 6, _ => re_ini0_6
  | 7, _ => re_ini0_7
  | 8, _ => re_ini0_8
  | 9, _ => re_ini0_9
  | 10, _ => re_ini0_10
  | 11, _ => re_ini0_11
  | 12, _ => re_ini0_12
  | 13, _ => re_ini0_13
  | 14, _ => re_ini0_14
  | 15, _ => re_ini0_15
  | 16, _ => re_ini0_16
  | 17, _ => re_ini0_17
  | 18, _ => re_ini0_18
  | 19, _ => re_ini0_19
  | 20, _ => re_ini0_20
  | 21, _ => re_ini0_21
  | 22, _ => re_ini0_22
  | 23, _ => re_ini0_23
  | 24, _ => re_ini0_24
  | 25, _ => re_ini0_25
  | 26, _ => re_ini0_26
  | 27, _ => re_ini0_27
  | 28, _ => re_ini0_28
  | i + 29, h => absurd h (by omega))
theorem re_o6 : ∀ y, re_isI rG y = true → (re_yn rN y).name = "<init>" := by
  intro y h
  have h : rYi y = true := h
  rcases Nat.lt_or_ge y 1408 with h9 | h9
  · have h8 := re_rng re_ini0 h9
    rw [h] at h8
    show (rYn y).name = "<init>"
    simpa using h8
  · unfold rYi at h
    rw [re_blt_ge h9] at h
    cases h
end
section
def rckM (y : Nat) : Bool := re_wat (rCodeAt y) (re_cw rN rG y) && (re_wat (rIniAt y) (.initialized (rYn y).cls) && (plainName (rYn y).cls && (decide ((rYn y).cls ≠ "java/lang/invoke/MethodHandle") && (decide ((rYn y).cls ≠ "java/lang/invoke/VarHandle") && decide ((parseMethodDescriptor (rYn y).desc).map (fun d => d.parameters.length) = some (rYa y))))))
end
section
def rIdm0 : List Nat := [0, 1, 2, 3, 4, 5, 6, 7, 8, 9, 10, 11, 12, 13, 14, 15, 16, 17, 18, 19, 20, 21]
theorem rM0 : rckM 0 = true := by decide +kernel
theorem rM1 : rckM 1 = true := by decide +kernel
theorem rM2 : rckM 2 = true := by decide +kernel
theorem rM3 : rckM 3 = true := by decide +kernel
theorem rM4 : rckM 4 = true := by decide +kernel
theorem rM5 : rckM 5 = true := by decide +kernel
theorem rM6 : rckM 6 = true := by decide +kernel
theorem rM7 : rckM 7 = true := by decide +kernel
theorem rM8 : rckM 8 = true := by decide +kernel
theorem rM9 : rckM 9 = true := by decide +kernel
theorem rM10 : rckM 10 = true := by decide +kernel
theorem rM11 : rckM 11 = true := by decide +kernel
theorem rM12 : rckM 12 = true := by decide +kernel
theorem rM13 : rckM 13 = true := by decide +kernel
theorem rM14 : rckM 14 = true := by decide +kernel
theorem rM15 : rckM 15 = true := by decide +kernel
theorem rM16 : rckM 16 = true := by decide +kernel
theorem rM17 : rckM 17 = true := by decide +kernel
theorem rM18 : rckM 18 = true := by decide +kernel
theorem rM19 : rckM 19 = true := by decide +kernel
theorem rM20 : rckM 20 = true := by decide +kernel
theorem rM21 : rckM 21 = true := by decide +kernel
theorem rMl0 : ∀ y ∈ rIdm0, rckM y = true := List.forall_mem_cons.mpr ⟨rM0, List.forall_mem_cons.mpr ⟨rM1, List.forall_mem_cons.mpr ⟨rM2, List.forall_mem_cons.mpr ⟨rM3, List.forall_mem_cons.mpr ⟨rM4, List.forall_mem_cons.mpr ⟨rM5, List.forall_mem_cons.mpr ⟨rM6, List.forall_mem_cons.mpr ⟨rM7, List.forall_mem_cons.mpr ⟨rM8, List.forall_mem_cons.mpr ⟨rM9, List.forall_mem_cons.mpr ⟨rM10, List.forall_mem_cons.mpr ⟨rM11, List.forall_mem_cons.mpr ⟨rM12, List.forall_mem_cons.mpr ⟨rM13, List.forall_mem_cons.mpr ⟨rM14, List.forall_mem_cons.mpr ⟨rM15, List.forall_mem_cons.mpr ⟨rM16, List.forall_mem_cons.mpr ⟨rM17, List.forall_mem_cons.mpr ⟨rM18, List.forall_mem_cons.mpr ⟨rM19, List.forall_mem_cons.mpr ⟨rM20, List.forall_mem_cons.mpr ⟨rM21, fun _ h => absurd h List.not_mem_nil⟩⟩⟩⟩⟩⟩⟩⟩⟩⟩⟩⟩⟩⟩⟩⟩⟩⟩⟩⟩⟩⟩
end
section
def rIdm1 : List Nat := [22, 23, 24, 25, 26, 27, 28, 29, 30, 31, 32, 33, 34, 35, 36, 37, 38, 39, 64, 65, 66, 67, 68, 69, 70]
theorem rM22 : rckM 22 = true := by decide +kernel
theorem rM23 : rckM 23 = true := by decide +kernel
theorem rM24 : rckM 24 = true := by decide +kernel
theorem rM25 : rckM 25 = true := by decide +kernel
theorem rM26 : rckM 26 = true := by decide +kernel
theorem rM27 : rckM 27 = true := by decide +kernel
theorem rM28 : rckM 28 = true := by decide +kernel
theorem rM29 : rckM 29 = true := by decide +kernel
theorem rM30 : rckM 30 = true := by decide +kernel
theorem rM31 : rckM 31 = true := by decide +kernel
theorem rM32 : rckM 32 = true := by decide +kernel
theorem rM33 : rckM 33 = true := by decide +kernel
theorem rM34 : rckM 34 = true := by decide +kernel
theorem rM35 : rckM 35 = true := by decide +kernel
theorem rM36 : rckM 36 = true := by decide +kernel
theorem rM37 : rckM 37 = true := by decide +kernel
theorem rM38 : rckM 38 = true := by decide +kernel
theorem rM39 : rckM 39 = true := by decide +kernel
theorem rM64 : rckM 64 = true := by decide +kernel
theorem rM65 : rckM 65 = true := by decide +kernel
theorem rM66 : rckM 66 = true := by decide +kernel
theorem rM67 : rckM 67 = true := by decide +kernel
theorem rM68 : rckM 68 = true := by decide +kernel
theorem rM69 : rckM 69 = true := by decide +kernel
theorem rM70 : rckM 70 = true := by decide +kernel
theorem rMl1 : ∀ y ∈ rIdm1, rckM y = true := List.forall_mem_cons.mpr ⟨rM22, List.forall_mem_cons.mpr ⟨rM23, List.forall_mem_cons.mpr ⟨rM24, List.forall_mem_cons.mpr ⟨rM25, List.forall_mem_cons.mpr ⟨rM26, List.forall_mem_cons.mpr ⟨rM27, List.forall_mem_cons.mpr ⟨rM28, List.forall_mem_cons.mpr ⟨rM29, List.forall_mem_cons.mpr ⟨rM30, List.forall_mem_cons.mpr ⟨rM31, List.forall_mem_cons.mpr ⟨rM32, List.forall_mem_cons.mpr ⟨rM33, List.forall_mem_cons.mpr ⟨rM34, List.forall_mem_cons.mpr ⟨rM35, List.forall_mem_cons.mpr ⟨rM36, List.forall_mem_cons.mpr ⟨rM37, List.forall_mem_cons.mpr ⟨rM38, List.forall_mem_cons.mpr ⟨rM39, List.forall_mem_cons.mpr ⟨rM64, List.forall_mem_cons.mpr ⟨rM65, List.forall_mem_cons.mpr ⟨rM66, List.forall_mem_cons.mpr ⟨rM67, List.forall_mem_cons.mpr ⟨rM68, List.forall_mem_cons.mpr ⟨rM69, List.forall_mem_cons.mpr ⟨rM70, fun _ h => absurd h List.not_mem_nil⟩⟩⟩⟩⟩⟩⟩⟩⟩⟩⟩⟩⟩⟩⟩⟩⟩⟩⟩⟩⟩⟩⟩⟩⟩
end
section
def rIdm2 : List Nat := [71, 128, 129, 130, 131, 132, 133, 134, 135, 136, 137, 138, 139, 140, 192, 193, 194, 195]
theorem rM71 : rckM 71 = true := by decide +kernel
theorem rM128 : rckM 128 = true := by decide +kernel
theorem rM129 : rckM 129 = true := by decide +kernel
theorem rM130 : rckM 130 = true := by decide +kernel
theorem rM131 : rckM 131 = true := by decide +kernel
theorem rM132 : rckM 132 = true := by decide +kernel
theorem rM133 : rckM 133 = true := by decide +kernel
theorem rM134 : rckM 134 = true := by decide +kernel
theorem rM135 : rckM 135 = true := by decide +kernel
theorem rM136 : rckM 136 = true := by decide +kernel
theorem rM137 : rckM 137 = true := by decide +kernel
theorem rM138 : rckM 138 = true := by decide +kernel
theorem rM139 : rckM 139 = true := by decide +kernel
theorem rM140 : rckM 140 = true := by decide +kernel
theorem rM192 : rckM 192 = true := by decide +kernel
theorem rM193 : rckM 193 = true := by decide +kernel
theorem rM194 : rckM 194 = true := by decide +kernel
theorem rM195 : rckM 195 = true := by decide +kernel
theorem rMl2 : ∀ y ∈ rIdm2, rckM y = true := List.forall_mem_cons.mpr ⟨rM71, List.forall_mem_cons.mpr ⟨rM128, List.forall_mem_cons.mpr ⟨rM129, List.forall_mem_cons.mpr ⟨rM130, List.forall_mem_cons.mpr ⟨rM131, List.forall_mem_cons.mpr ⟨rM132, List.forall_mem_cons.mpr ⟨rM133, List.forall_mem_cons.mpr ⟨rM134, List.forall_mem_cons.mpr ⟨rM135, List.forall_mem_cons.mpr ⟨rM136, List.forall_mem_cons.mpr ⟨rM137, List.forall_mem_cons.mpr ⟨rM138, List.forall_mem_cons.mpr ⟨rM139, List.forall_mem_cons.mpr ⟨rM140, List.forall_mem_cons.mpr ⟨rM192, List.forall_mem_cons.mpr ⟨rM193, List.forall_mem_cons.mpr ⟨rM194, List.forall_mem_cons.mpr ⟨rM195, fun _ h => absurd h List.not_mem_nil⟩⟩⟩⟩⟩⟩⟩⟩⟩⟩⟩⟩⟩⟩⟩⟩⟩⟩
end
section
def rIdm3 : List Nat := [196, 197, 256, 320, 321, 322, 323, 324, 325, 326, 327, 328, 329, 330, 331, 332, 384, 385, 386, 387]
theorem rM196 : rckM 196 = true := by decide +kernel
theorem rM197 : rckM 197 = true := by decide +kernel
theorem rM256 : rckM 256 = true := by decide +kernel
theorem rM320 : rckM 320 = true := by decide +kernel
theorem rM321 : rckM 321 = true := by decide +kernel
theorem rM322 : rckM 322 = true := by decide +kernel
theorem rM323 : rckM 323 = true := by decide +kernel
theorem rM324 : rckM 324 = true := by decide +kernel
theorem rM325 : rckM 325 = true := by decide +kernel
theorem rM326 : rckM 326 = true := by decide +kernel
theorem rM327 : rckM 327 = true := by decide +kernel
theorem rM328 : rckM 328 = true := by decide +kernel
theorem rM329 : rckM 329 = true := by decide +kernel
theorem rM330 : rckM 330 = true := by decide +kernel
theorem rM331 : rckM 331 = true := by decide +kernel
theorem rM332 : rckM 332 = true := by decide +kernel
theorem rM384 : rckM 384 = true := by decide +kernel
theorem rM385 : rckM 385 = true := by decide +kernel
theorem rM386 : rckM 386 = true := by decide +kernel
theorem rM387 : rckM 387 = true := by decide +kernel
theorem rMl3 : ∀ y ∈ rIdm3, rckM y = true := List.forall_mem_cons.mpr ⟨rM196, List.forall_mem_cons.mpr ⟨rM197, List.forall_mem_cons.mpr ⟨rM256, List.forall_mem_cons.mpr ⟨rM320, List.forall_mem_cons.mpr ⟨rM321, List.forall_mem_cons.mpr ⟨rM322, List.forall_mem_cons.mpr ⟨rM323, List.forall_mem_cons.mpr ⟨rM324, List.forall_mem_cons.mpr ⟨rM325, List.forall_mem_cons.mpr ⟨rM326, List.forall_mem_cons.mpr ⟨rM327, List.forall_mem_cons.mpr ⟨rM328, List.forall_mem_cons.mpr ⟨rM329, List.forall_mem_cons.mpr ⟨rM330, List.forall_mem_cons.mpr ⟨rM331, List.forall_mem_cons.mpr ⟨rM332, List.forall_mem_cons.mpr ⟨rM384, List.forall_mem_cons.mpr ⟨rM385, List.forall_mem_cons.mpr ⟨rM386, List.forall_mem_cons.mpr ⟨rM387, fun _ h => absurd h List.not_mem_nil⟩⟩⟩⟩⟩⟩⟩⟩⟩⟩⟩⟩⟩⟩⟩⟩⟩⟩⟩⟩
end
section
def rIdm4 : List Nat := [388, 448, 449, 450, 451, 452, 453, 454, 455, 456, 457, 458, 459]
theorem rM388 : rckM 388 = true := by decide +kernel
theorem rM448 : rckM 448 = true := by decide +kernel
theorem rM449 : rckM 449 = true := by decide +kernel
theorem rM450 : rckM 450 = true := by decide +kernel
theorem rM451 : rckM 451 = true := by decide +kernel
theorem rM452 : rckM 452 = true := by decide +kernel
theorem rM453 : rckM 453 = true := by decide +kernel
theorem rM454 : rckM 454 = true := by decide +kernel
theorem rM455 : rckM 455 = true := by decide +kernel
theorem rM456 : rckM 456 = true := by decide +kernel
theorem rM457 : rckM 457 = true := by decide +kernel
theorem rM458 : rckM 458 = true := by decide +kernel
theorem rM459 : rckM 459 = true := by decide +kernel
theorem rMl4 : ∀ y ∈ rIdm4, rckM y = true := List.forall_mem_cons.mpr ⟨rM388, List.forall_mem_cons.mpr ⟨rM448, List.forall_mem_cons.mpr ⟨rM449, List.forall_mem_cons.mpr ⟨rM450, List.forall_mem_cons.mpr ⟨rM451, List.forall_mem_cons.mpr ⟨rM452, List.forall_mem_cons.mpr ⟨rM453, List.forall_mem_cons.mpr ⟨rM454, List.forall_mem_cons.mpr ⟨rM455, List.forall_mem_cons.mpr ⟨rM456, List.forall_mem_cons.mpr ⟨rM457, List.forall_mem_cons.mpr ⟨rM458, List.forall_mem_cons.mpr ⟨rM459, fun _ h => absurd h List.not_mem_nil⟩⟩⟩⟩⟩⟩⟩⟩⟩⟩⟩⟩⟩
end
section
def rIdm5 : List Nat := [460, 461, 462, 463, 464, 512, 513, 514, 515, 516, 517, 518, 519, 520, 521]
theorem rM460 : rckM 460 = true := by decide +kernel
theorem rM461 : rckM 461 = true := by decide +kernel
theorem rM462 : rckM 462 = true := by decide +kernel
theorem rM463 : rckM 463 = true := by decide +kernel
theorem rM464 : rckM 464 = true := by decide +kernel
theorem rM512 : rckM 512 = true := by decide +kernel
theorem rM513 : rckM 513 = true := by decide +kernel
theorem rM514 : rckM 514 = true := by decide +kernel
theorem rM515 : rckM 515 = true := by decide +kernel
theorem rM516 : rckM 516 = true := by decide +kernel
theorem rM517 : rckM 517 = true := by decide +kernel
theorem rM518 : rckM 518 = true := by decide +kernel
theorem rM519 : rckM 519 = true := by decide +kernel
theorem rM520 : rckM 520 = true := by decide +kernel
theorem rM521 : rckM 521 = true := by decide +kernel
theorem rMl5 : ∀ y ∈ rIdm5, rckM y = true := List.forall_mem_cons.mpr ⟨rM460, List.forall_mem_cons.mpr ⟨rM461, List.forall_mem_cons.mpr ⟨rM462, List.forall_mem_cons.mpr ⟨rM463, List.forall_mem_cons.mpr ⟨rM464, List.forall_mem_cons.mpr ⟨rM512, List.forall_mem_cons.mpr ⟨rM513, List.forall_mem_cons.mpr ⟨rM514, List.forall_mem_cons.mpr ⟨rM515, List.forall_mem_cons.mpr ⟨rM516, List.forall_mem_cons.mpr ⟨rM517, List.forall_mem_cons.mpr ⟨rM518, List.forall_mem_cons.mpr ⟨rM519, List.forall_mem_cons.mpr ⟨rM520, List.forall_mem_cons.mpr ⟨rM521, fun _ h => absurd h List.not_mem_nil⟩⟩⟩⟩⟩⟩⟩⟩⟩⟩⟩⟩⟩⟩⟩
end
section
def rIdm6 : List Nat := [522, 523, 576, 577, 578, 579, 580, 581, 582]
theorem rM522 : rckM 522 = true := by decide +kernel
theorem rM523 : rckM 523 = true := by decide +kernel
theorem rM576 : rckM 576 = true := by decide +kernel
theorem rM577 : rckM 577 = true := by decide +kernel
theorem rM578 : rckM 578 = true := by decide +kernel
theorem rM579 : rckM 579 = true := by decide +kernel
theorem rM580 : rckM 580 = true := by decide +kernel
theorem rM581 : rckM 581 = true := by decide +kernel
theorem rM582 : rckM 582 = true := by decide +kernel
theorem rMl6 : ∀ y ∈ rIdm6, rckM y = true := List.forall_mem_cons.mpr ⟨rM522, List.forall_mem_cons.mpr ⟨rM523, List.forall_mem_cons.mpr ⟨rM576, List.forall_mem_cons.mpr ⟨rM577, List.forall_mem_cons.mpr ⟨rM578, List.forall_mem_cons.mpr ⟨rM579, List.forall_mem_cons.mpr ⟨rM580, List.forall_mem_cons.mpr ⟨rM581, List.forall_mem_cons.mpr ⟨rM582, fun _ h => absurd h List.not_mem_nil⟩⟩⟩⟩⟩⟩⟩⟩⟩
end
section
def rIdm7 : List Nat := [583, 584, 585, 586]
theorem rM583 : rckM 583 = true := by decide +kernel
theorem rM584 : rckM 584 = true := by decide +kernel
theorem rM585 : rckM 585 = true := by decide +kernel
theorem rM586 : rckM 586 = true := by decide +kernel
theorem rMl7 : ∀ y ∈ rIdm7, rckM y = true := List.forall_mem_cons.mpr ⟨rM583, List.forall_mem_cons.mpr ⟨rM584, List.forall_mem_cons.mpr ⟨rM585, List.forall_mem_cons.mpr ⟨rM586, fun _ h => absurd h List.not_mem_nil⟩⟩⟩⟩
end
section
def rIdm8 : List Nat := [587]
theorem rM587 : rckM 587 = true := by decide +kernel
theorem rMl8 : ∀ y ∈ rIdm8, rckM y = true := List.forall_mem_cons.mpr ⟨rM587, fun _ h => absurd h List.not_mem_nil⟩
end
section
def rIdm9 : List Nat := [640, 641, 642, 643, 644, 704, 768]
theorem rM640 : rckM 640 = true := by decide +kernel
theorem rM641 : rckM 641 = true := by decide +kernel
theorem rM642 : rckM 642 = true := by decide +kernel
theorem rM643 : rckM 643 = true := by decide +kernel
theorem rM644 : rckM 644 = true := by decide +kernel
theorem rM704 : rckM 704 = true := by decide +kernel
theorem rM768 : rckM 768 = true := by decide +kernel
theorem rMl9 : ∀ y ∈ rIdm9, rckM y = true := List.forall_mem_cons.mpr ⟨rM640, List.forall_mem_cons.mpr ⟨rM641, List.forall_mem_cons.mpr ⟨rM642, List.forall_mem_cons.mpr ⟨rM643, List.forall_mem_cons.mpr ⟨rM644, List.forall_mem_cons.mpr ⟨rM704, List.forall_mem_cons.mpr ⟨rM768, fun _ h => absurd h List.not_mem_nil⟩⟩⟩⟩⟩⟩⟩
end
section
def rIdm : List Nat := rIdm0 ++ rIdm1 ++ rIdm2 ++ rIdm3 ++ rIdm4 ++ rIdm5 ++ rIdm6 ++ rIdm7 ++ rIdm8 ++ rIdm9
theorem rMall : ∀ y ∈ rIdm, rckM y = true := by
  unfold rIdm
  intro y hy
  simp only [List.mem_append] at hy
  rcases hy with ((((((((hy | hy) | hy) | hy) | hy) | hy) | hy) | hy) | hy) | hy
  · exact rMl0 y hy
  · exact rMl1 y hy
  · exact rMl2 y hy
  · exact rMl3 y hy
  · exact rMl4 y hy
  · exact rMl5 y hy
  · exact rMl6 y hy
  · exact rMl7 y hy
  · exact rMl8 y hy
  · exact rMl9 y hy
end
section
theorem re_okM_ok {y : Nat} (hy : y ∈ rIdm) : re_okM rN rG y (rYa y) := by
  have hk := rMall y hy
  unfold rckM at hk
  simp only [Bool.and_eq_true, decide_eq_true_eq] at hk
  obtain ⟨h1, h2, h3, h4, h5, h6⟩ := hk
  exact ⟨re_wat_ok h1, re_wat_ok h2, h3, h4, h5, h6⟩
def rckK (c idx : Nat) : Bool := match rCa c idx with
  | none => true
  | some (k, y', na) => match rCw c idx with
    | none => false
    | some (w1, w2, w3) => if k = 3 then re_wat w1 (.methodLink (rCn c) idx Lib.objectInit) && (re_wat rObjAt.1 (.instanceMethod Lib.objectInit) && re_wat rObjAt.2 (.code Lib.objectInit ⟨#[0xb1]⟩ 1 none))
      else decide (y' ∈ rIdm) && (decide (na = rYa y') && (decide (k < 9) && (decide (k = 0 ∨ k = 1 ∨ k = 2 ∨ k = 8 → re_wat w1 (.methodLink (rCn c) idx (rYn y')) = true) && (decide (k = 4 ∨ k = 5 ∨ k = 6 → (match rTW[w1]? with
        | some (.methodLinkNest a i x z) => decide (a = rCn c) && (decide (i = idx) && decide (x = rYn y'))
        | _ => false) = true) && (decide (k = 0 ∨ k = 4 ∨ k = 8 → re_wat w2 (.static (rYn y')) = true) && (decide (k = 1 ∨ k = 2 ∨ k = 5 ∨ k = 6 → re_wat w2 (.instanceMethod (rYn y')) = true) && (decide (k = 1 ∨ k = 5 → (re_wat w3 (.selects (rYn y').cls (rYn y') (rYn y')) && (match rCl[rYc y']? with
        | some r => decide (r.1 = (rYn y').cls)
        | none => false)) = true) && (decide (k = 2 ∨ k = 6 → (rYn y').name = "<init>" ∧ rYr y' = none) && (decide (¬ k = 8 → rHh y' = []) && decide (k = 8 → ¬ rHh y' = []))))))))))
theorem rckK_0 : re_two rckK 0 = true := by decide +kernel
theorem rckK_1 : re_two rckK 1 = true := by decide +kernel
theorem rckK_2 : re_two rckK 2 = true := by decide +kernel
theorem rckK_3 : re_two rckK 3 = true := by decide +kernel
theorem rckK_4 : re_two rckK 4 = true := by decide +kernel
theorem rckK_5 : re_two rckK 5 = true := by decide +kernel
theorem rckK_6 : re_two rckK 6 = true := by decide +kernel
theorem rckK_7 : re_two rckK 7 = true := by decide +kernel
theorem rckK_8 : re_two rckK 8 = true := by decide +kernel
theorem rckK_9 : re_two rckK 9 = true := by decide +kernel
theorem rckK_10 : re_two rckK 10 = true := by decide +kernel
theorem rckK_11 : re_two rckK 11 = true := by decide +kernel
theorem rckK_12 : re_two rckK 12 = true := by decide +kernel
theorem rckK_13 : re_two rckK 13 = true := by decide +kernel
theorem rckK_14 : re_two rckK 14 = true := by decide +kernel
theorem rckK_15 : re_two rckK 15 = true := by decide +kernel
theorem rckK_16 : re_two rckK 16 = true := by decide +kernel
theorem rckK_17 : re_two rckK 17 = true := by decide +kernel
theorem rckK_18 : re_two rckK 18 = true := by decide +kernel
theorem rckK_19 : re_two rckK 19 = true := by decide +kernel
theorem rckK_20 : re_two rckK 20 = true := by decide +kernel
theorem rckK_21 : re_two rckK 21 = true := by decide +kernel
theorem rckK_all : (List.range 22).all (re_two rckK) = true := by
  rw [show List.range 22 = [0, 1, 2, 3, 4, 5, 6, 7, 8, 9, 10, 11, 12, 13, 14, 15, 16, 17, 18, 19, 20, 21] from rfl]
  simp only [List.all_cons, List.all_nil, Bool.and_true, rckK_0, rckK_1, rckK_2, rckK_3, rckK_4, rckK_5, rckK_6, rckK_7, rckK_8, rckK_9, rckK_10, rckK_11, rckK_12, rckK_13, rckK_14, rckK_15, rckK_16, rckK_17, rckK_18, rckK_19, rckK_20, rckK_21]
theorem re_o7 : ∀ y idx k y' na, re_cl rG y idx = some (k, y', na) → re_okC rN rG y idx k y' na := by
  intro y idx k y' na h
  have h : rCa (Nat.div y 64) idx = some (k, y', na) := h
  have hk : rckK (Nat.div y 64) idx = true := re_two_ok rckK_all (re_cond (by unfold rCa at h; exact h))
  unfold rckK at hk
  rw [h] at hk
  dsimp only at hk
  split at hk
  next => cases hk
  next w1 w2 w3 hw =>
  split at hk
  next h3 =>
    subst h3
    simp only [Bool.and_eq_true] at hk
    exact ⟨fun _ => ⟨by show Cond.methodLink (rYn y).cls _ _ ∈ _; rw [re_cls_eq]; exact re_wat_ok hk.1, re_wat_ok hk.2.1, re_wat_ok hk.2.2⟩, fun z => absurd rfl z, fun z => by omega, fun z => by omega, fun z => by omega, fun z => by omega, fun z => by omega, fun z => by omega, fun z => absurd rfl z, fun z => by omega⟩
  next h3 =>
    simp only [Bool.and_eq_true, decide_eq_true_eq] at hk
    obtain ⟨k1, k2, k3, k4, k5, k6, k7, k8, k9, k10, k11⟩ := hk
    refine ⟨fun z => absurd z h3, fun _ => by rw [k2]; exact re_okM_ok k1, fun z => ?_, fun z => ?_, fun z => re_wat_ok (k6 z), fun z => re_wat_ok (k7 z), fun z => ?_, fun z => k9 z, fun _ z => k10 z, fun z => k11 z⟩
    · show Cond.methodLink (rYn y).cls _ _ ∈ _
      rw [re_cls_eq]
      exact re_wat_ok (k4 z)
    · have k5 := k5 z
      split at k5
      next a i x z9 hz =>
        simp only [Bool.and_eq_true, decide_eq_true_eq] at k5
        obtain ⟨e1, e2, e3⟩ := k5
        refine ⟨z9, ?_⟩
        show Cond.methodLinkNest (rYn y).cls _ (rYn y') _ ∈ rTW ++ rTWd
        rw [re_cls_eq, ← e1, ← e2, ← e3]
        exact List.mem_append_left _ (List.mem_of_getElem? hz)
      next => cases k5
    · obtain ⟨q1, q2⟩ := k8 z
      refine ⟨re_wat_ok q1, ?_⟩
      split at q2
      next r hr => exact ⟨r, hr, of_decide_eq_true q2⟩
      next => cases q2
def rckW (c idx : Nat) : Bool := match rNw c idx with
  | none => true
  | some d => match rCl[d.1]?, rNv c idx with
    | some r, some (w1, w2, w3) => re_wat w1 (.classLink (rCn c) idx r.1) && (re_wat w2 (.instantiable r.1 r.2.2) && (re_wat w3 (.initialized r.1) && (decide (d.2.length = r.2.2) && (d.2.all (fun v => decide (v = .null ∨ v = .int 0 ∨ v = .long 0)) && (List.range r.2.2).all (fun j => match parseFieldDescriptor (r.2.1 j).2.2.1 with
      | some t => decide (defaultValue t = vp_V d.2 j)
      | none => false)))))
    | _, _ => false
theorem rckW_0 : re_two rckW 0 = true := by decide +kernel
theorem rckW_1 : re_two rckW 1 = true := by decide +kernel
theorem rckW_2 : re_two rckW 2 = true := by decide +kernel
theorem rckW_3 : re_two rckW 3 = true := by decide +kernel
theorem rckW_4 : re_two rckW 4 = true := by decide +kernel
theorem rckW_5 : re_two rckW 5 = true := by decide +kernel
theorem rckW_6 : re_two rckW 6 = true := by decide +kernel
theorem rckW_7 : re_two rckW 7 = true := by decide +kernel
theorem rckW_8 : re_two rckW 8 = true := by decide +kernel
theorem rckW_9 : re_two rckW 9 = true := by decide +kernel
theorem rckW_10 : re_two rckW 10 = true := by decide +kernel
theorem rckW_11 : re_two rckW 11 = true := by decide +kernel
theorem rckW_12 : re_two rckW 12 = true := by decide +kernel
theorem rckW_13 : re_two rckW 13 = true := by decide +kernel
theorem rckW_14 : re_two rckW 14 = true := by decide +kernel
theorem rckW_15 : re_two rckW 15 = true := by decide +kernel
theorem rckW_16 : re_two rckW 16 = true := by decide +kernel
theorem rckW_17 : re_two rckW 17 = true := by decide +kernel
theorem rckW_18 : re_two rckW 18 = true := by decide +kernel
theorem rckW_19 : re_two rckW 19 = true := by decide +kernel
theorem rckW_20 : re_two rckW 20 = true := by decide +kernel
theorem rckW_21 : re_two rckW 21 = true := by decide +kernel
theorem rckW_all : (List.range 22).all (re_two rckW) = true := by
  rw [show List.range 22 = [0, 1, 2, 3, 4, 5, 6, 7, 8, 9, 10, 11, 12, 13, 14, 15, 16, 17, 18, 19, 20, 21] from rfl]
  simp only [List.all_cons, List.all_nil, Bool.and_true, rckW_0, rckW_1, rckW_2, rckW_3, rckW_4, rckW_5, rckW_6, rckW_7, rckW_8, rckW_9, rckW_10, rckW_11, rckW_12, rckW_13, rckW_14, rckW_15, rckW_16, rckW_17, rckW_18, rckW_19, rckW_20, rckW_21]
theorem re_o8 : ∀ y idx d, re_nw rG y idx = some d → re_okW rN y idx d := by
  intro y idx d h hd
  have h : rNw (Nat.div y 64) idx = some d := h
  have hk : rckW (Nat.div y 64) idx = true := re_two_ok rckW_all (re_cond (by unfold rNw at h; exact h))
  unfold rckW at hk
  rw [h] at hk
  dsimp only at hk
  split at hk
  next r w1 w2 w3 hr hw =>
    simp only [Bool.and_eq_true, decide_eq_true_eq] at hk
    obtain ⟨k1, k2, k3, k4, k5, k6⟩ := hk
    refine ⟨r, hr, by show Cond.classLink (rYn y).cls _ _ ∈ _; rw [re_cls_eq]; exact re_wat_ok k1, re_wat_ok k2, re_wat_ok k3, k4, fun v hv => of_decide_eq_true (List.all_eq_true.mp k5 v hv), fun ty hty j hj => ?_⟩
    have k7 := re_rng k6 hj
    rw [hty j hj] at k7
    exact of_decide_eq_true k7
  next => cases hk
def rckA (c idx : Nat) : Bool := match rAn c idx with
  | none => true
  | some j => match rE j, rAw c idx with
    | .object C, some w => Nat.ble 3 j && (Nat.blt j (re_nE rG) && re_wat w (.classLink (rCn c) idx C))
    | _, _ => false
theorem rckA_0 : re_two rckA 0 = true := by decide +kernel
theorem rckA_1 : re_two rckA 1 = true := by decide +kernel
theorem rckA_2 : re_two rckA 2 = true := by decide +kernel
theorem rckA_3 : re_two rckA 3 = true := by decide +kernel
theorem rckA_4 : re_two rckA 4 = true := by decide +kernel
theorem rckA_5 : re_two rckA 5 = true := by decide +kernel
theorem rckA_6 : re_two rckA 6 = true := by decide +kernel
theorem rckA_7 : re_two rckA 7 = true := by decide +kernel
theorem rckA_8 : re_two rckA 8 = true := by decide +kernel
theorem rckA_9 : re_two rckA 9 = true := by decide +kernel
theorem rckA_10 : re_two rckA 10 = true := by decide +kernel
theorem rckA_11 : re_two rckA 11 = true := by decide +kernel
theorem rckA_12 : re_two rckA 12 = true := by decide +kernel
theorem rckA_13 : re_two rckA 13 = true := by decide +kernel
theorem rckA_14 : re_two rckA 14 = true := by decide +kernel
theorem rckA_15 : re_two rckA 15 = true := by decide +kernel
theorem rckA_16 : re_two rckA 16 = true := by decide +kernel
theorem rckA_17 : re_two rckA 17 = true := by decide +kernel
theorem rckA_18 : re_two rckA 18 = true := by decide +kernel
theorem rckA_19 : re_two rckA 19 = true := by decide +kernel
theorem rckA_20 : re_two rckA 20 = true := by decide +kernel
theorem rckA_21 : re_two rckA 21 = true := by decide +kernel
theorem rckA_all : (List.range 22).all (re_two rckA) = true := by
  rw [show List.range 22 = [0, 1, 2, 3, 4, 5, 6, 7, 8, 9, 10, 11, 12, 13, 14, 15, 16, 17, 18, 19, 20, 21] from rfl]
  simp only [List.all_cons, List.all_nil, Bool.and_true, rckA_0, rckA_1, rckA_2, rckA_3, rckA_4, rckA_5, rckA_6, rckA_7, rckA_8, rckA_9, rckA_10, rckA_11, rckA_12, rckA_13, rckA_14, rckA_15, rckA_16, rckA_17, rckA_18, rckA_19, rckA_20, rckA_21]
theorem re_o9 : ∀ y idx j, re_an rG y idx = some j → 3 ≤ j ∧ j < re_nE rG ∧ ∃ C, re_E rN j = .object C ∧ Cond.classLink (re_yn rN y).cls idx C ∈ re_B rN := by
  intro y idx j h
  have h : rAn (Nat.div y 64) idx = some j := h
  have hk : rckA (Nat.div y 64) idx = true := re_two_ok rckA_all (re_cond (by unfold rAn at h; exact h))
  unfold rckA at hk
  rw [h] at hk
  dsimp only at hk
  split at hk
  next C w hC hw =>
    simp only [Bool.and_eq_true] at hk
    exact ⟨Nat.le_of_ble_eq_true hk.1, re_blt_lt hk.2.1, C, hC, by show Cond.classLink (rYn y).cls _ _ ∈ _; rw [re_cls_eq]; exact re_wat_ok hk.2.2⟩
  next => cases hk
theorem re_o10 : Cond.arrayClass .int ∈ re_B rN ∧ Cond.arrayClass .long ∈ re_B rN ∧ Cond.arrayClass .boolean ∈ re_B rN :=
  ⟨re_wat_ok (i := rArrAt.getD 0 0) (by decide +kernel), re_wat_ok (i := rArrAt.getD 1 0) (by decide +kernel), re_wat_ok (i := rArrAt.getD 2 0) (by decide +kernel)⟩
def rckV (c idx : Nat) : Bool := match rKs c idx with
  | none => true
  | some v => match v with
    | .int x => match rKw c idx with
      | some w => re_wat w (.constant (rCn c) idx x)
      | none => false
    | .long x => match rKw c idx with
      | some w => re_wat w (.constantLong (rCn c) idx x)
      | none => false
    | _ => false
theorem rckV_0 : re_two rckV 0 = true := by decide +kernel
theorem rckV_1 : re_two rckV 1 = true := by decide +kernel
theorem rckV_2 : re_two rckV 2 = true := by decide +kernel
theorem rckV_3 : re_two rckV 3 = true := by decide +kernel
theorem rckV_4 : re_two rckV 4 = true := by decide +kernel
theorem rckV_5 : re_two rckV 5 = true := by decide +kernel
theorem rckV_6 : re_two rckV 6 = true := by decide +kernel
theorem rckV_7 : re_two rckV 7 = true := by decide +kernel
theorem rckV_8 : re_two rckV 8 = true := by decide +kernel
theorem rckV_9 : re_two rckV 9 = true := by decide +kernel
theorem rckV_10 : re_two rckV 10 = true := by decide +kernel
theorem rckV_11 : re_two rckV 11 = true := by decide +kernel
theorem rckV_12 : re_two rckV 12 = true := by decide +kernel
theorem rckV_13 : re_two rckV 13 = true := by decide +kernel
theorem rckV_14 : re_two rckV 14 = true := by decide +kernel
theorem rckV_15 : re_two rckV 15 = true := by decide +kernel
theorem rckV_16 : re_two rckV 16 = true := by decide +kernel
theorem rckV_17 : re_two rckV 17 = true := by decide +kernel
theorem rckV_18 : re_two rckV 18 = true := by decide +kernel
theorem rckV_19 : re_two rckV 19 = true := by decide +kernel
theorem rckV_20 : re_two rckV 20 = true := by decide +kernel
theorem rckV_21 : re_two rckV 21 = true := by decide +kernel
theorem rckV_all : (List.range 22).all (re_two rckV) = true := by
  rw [show List.range 22 = [0, 1, 2, 3, 4, 5, 6, 7, 8, 9, 10, 11, 12, 13, 14, 15, 16, 17, 18, 19, 20, 21] from rfl]
  simp only [List.all_cons, List.all_nil, Bool.and_true, rckV_0, rckV_1, rckV_2, rckV_3, rckV_4, rckV_5, rckV_6, rckV_7, rckV_8, rckV_9, rckV_10, rckV_11, rckV_12, rckV_13, rckV_14, rckV_15, rckV_16, rckV_17, rckV_18, rckV_19, rckV_20, rckV_21]
theorem re_o11 : ∀ y idx v, re_ks rG y idx = some v → re_okK rN y idx v := by
  intro y idx v h
  have h : rKs (Nat.div y 64) idx = some v := h
  have hk : rckV (Nat.div y 64) idx = true := re_two_ok rckV_all (re_cond (by unfold rKs at h; exact h))
  unfold rckV at hk
  rw [h] at hk
  dsimp only at hk
  split at hk
  next x =>
    split at hk
    next w hw => exact ⟨fun x9 e => (by cases e; show Cond.constant (rYn y).cls _ _ ∈ _; rw [re_cls_eq]; exact re_wat_ok hk), fun x9 e => (by cases e)⟩
    next => cases hk
  next x =>
    split at hk
    next w hw => exact ⟨fun x9 e => (by cases e), fun x9 e => by cases e; show Cond.constantLong (rYn y).cls _ _ ∈ _; rw [re_cls_eq]; exact re_wat_ok hk⟩
    next => cases hk
  next => cases hk
end
section
/-- the words of an exception's making, but for the link -/
def re_atR (X : String) : List Cond := (Bundle.throwableAtoms ++ Bundle.throwableSAtoms ++ Bundle.chainSAtoms X re_xs ++
  ([.instantiable X 6, .castable X X, .selects X Bundle.tFill0 Bundle.tFill0, .selects X Bundle.tFill Bundle.tFill,
   .lays X Bundle.tN "cause" "Ljava/lang/Throwable;", .lays X Bundle.tN "stackTrace" Bundle.steD, .lays X Bundle.tN "suppressedExceptions" Bundle.listD, .lays X Bundle.tN "detailMessage" "Ljava/lang/String;",
   .isRef (.static Bundle.tN "UNASSIGNED_STACK" Bundle.steD), .isRef (.static Bundle.tN "SUPPRESSED_SENTINEL" Bundle.listD),
   .fieldLink Bundle.tN 198 Bundle.tN "backtrace" "Ljava/lang/Object;", .lays Bundle.tN Bundle.tN "backtrace" "Ljava/lang/Object;", .lays X Bundle.tN "backtrace" "Ljava/lang/Object;"] : List Cond)).filter vx_no
theorem re_atR_ok {own X : String} {ic : Nat} {w : Cond} (h : w ∈ vx_atS own ic X re_xs) : w = .methodLink own ic (Bundle.initS X) ∨ w ∈ re_atR X := by
  unfold vx_atS Bundle.ownAtoms at h
  obtain ⟨h1, h2⟩ := List.mem_filter.mp h
  rw [List.mem_append] at h1
  unfold re_atR
  rcases h1 with h1 | h1
  · exact Or.inr (List.mem_filter.mpr ⟨List.mem_append_left _ h1, h2⟩)
  · rcases List.mem_cons.mp h1 with rfl | h1
    · exact Or.inl rfl
    · exact Or.inr (List.mem_filter.mpr ⟨List.mem_append_right _ h1, h2⟩)
def rckR (X : String) (w : Cond) : Bool := (goodWord w && decide (w ∈ lw_tbl)) || decide (w ∈ rTW ++ rTWd)
theorem rckR_0 : (re_atR (rXn 0)).all (rckR (rXn 0)) = true := by decide +kernel
theorem rckR_1 : (re_atR (rXn 1)).all (rckR (rXn 1)) = true := by decide +kernel
theorem rckR_2 : (re_atR (rXn 2)).all (rckR (rXn 2)) = true := by decide +kernel
theorem rckO_0 : (re_atR (rXn 0)).all vx_ot = true := by decide +kernel
theorem rckO_1 : (re_atR (rXn 1)).all vx_ot = true := by decide +kernel
theorem rckO_2 : (re_atR (rXn 2)).all vx_ot = true := by decide +kernel
theorem rckR_ok {x : Nat} (hx : x < 3) : (re_atR (rXn x)).all (rckR (rXn x)) = true ∧ (re_atR (rXn x)).all vx_ot = true := by
  match x, hx with
  | 0, _ => exact ⟨rckR_0, rckO_0⟩
  | 1, _ => exact ⟨rckR_1, rckO_1⟩
  | 2, _ => exact ⟨rckR_2, rckO_2⟩
def rckT (q : Nat × Nat) : Bool := match rTh q.1 q.2, rTp q.1 q.2 with
  | some (x, ik, is, ic, text), some (p1, p2, p3) => Nat.blt x 3 && (decide (rTx q.1 q.2 = some x) && (Bundle.fit (rXn x) && (re_wat p1 (.classLink (rYn q.1).cls ik (rXn x)) && (re_wat p2 (.initialized (rXn x)) && (re_wat p3 (.methodLink (rYn q.1).cls ic (Bundle.initS (rXn x))) && (decide (((rYn q.1).cls, is, text) ∈ rSL) && (decide (decode (rYb q.1) q.2 = .ok (.new ik, 3)) && (decide (decode (rYb q.1) (q.2 + 3) = .ok (.dup, 1)) && ((decide (decode (rYb q.1) (q.2 + 4) = .ok (.ldc is, 2)) && (decide (decode (rYb q.1) (q.2 + 6) = .ok (.invokespecial ic, 3)) && decide (decode (rYb q.1) (q.2 + 9) = .ok (.athrow, 1)))) ||
    (decide (decode (rYb q.1) (q.2 + 4) = .ok (.ldc_w is, 3)) && (decide (decode (rYb q.1) (q.2 + 7) = .ok (.invokespecial ic, 3)) && decide (decode (rYb q.1) (q.2 + 10) = .ok (.athrow, 1)))))))))))))
  | _, _ => false
theorem rckT_all : rThs.all rckT = true := by decide +kernel
theorem rckH_all : rThs.all (fun q => (rHh q.1).isEmpty) = true := by decide +kernel
def rckS (y pc : Nat) : Bool := match rTx y pc with
  | none => true
  | some _ => decide ((y, pc) ∈ rThs)
theorem rckS_all : (List.range 1408).all (fun y => (List.range 256).all (rckS y)) = true := by decide +kernel
theorem re_o12 : ∀ y pc x, re_tw rG y pc = some x → re_okT rN y pc x ∧ re_hh rG y = [] := by
  intro y pc x h
  have h : rTx y pc = some x := h
  have hb : (Nat.blt y 1408 && Nat.blt pc 256) = true := re_cond (by unfold rTx at h; exact h)
  simp only [Bool.and_eq_true] at hb
  have hs := re_rng (re_rng rckS_all (re_blt_lt hb.1)) (re_blt_lt hb.2)
  unfold rckS at hs
  rw [h] at hs
  have hm : (y, pc) ∈ rThs := of_decide_eq_true hs
  have hk := List.all_eq_true.mp rckT_all _ hm
  unfold rckT at hk
  dsimp only at hk
  split at hk
  next x2 ik is ic text p1 p2 p3 h1 h2 =>
    simp only [Bool.and_eq_true, Bool.or_eq_true, decide_eq_true_eq] at hk
    obtain ⟨k1, k2, k3, k4, k5, k6, k7, k8, k9, k10⟩ := hk
    cases h.symm.trans k2
    obtain ⟨r1, r2⟩ := rckR_ok (re_blt_lt k1)
    refine ⟨⟨re_blt_lt k1, ik, is, ic, text, k3, re_wat_ok k4, re_wat_ok k5, k7, fun w hw => ?_, fun w hw => ?_, k8, k9, k10⟩, List.isEmpty_iff.mp (List.all_eq_true.mp rckH_all _ hm)⟩
    · rcases re_atR_ok hw with rfl | hw
      · exact Or.inl (re_wat_ok k6)
      · have h9 := List.all_eq_true.mp r1 w hw
        unfold rckR at h9
        simp only [Bool.and_eq_true, Bool.or_eq_true, decide_eq_true_eq] at h9
        rcases h9 with ⟨h9, h8⟩ | h9
        · exact Or.inl (List.mem_filter.mpr ⟨h8, h9⟩)
        · exact Or.inr h9
    · rcases List.mem_cons.mp hw with rfl | hw
      · rfl
      · rcases List.mem_cons.mp hw with rfl | hw
        · rfl
        · rcases re_atR_ok hw with rfl | hw
          · rfl
          · exact List.all_eq_true.mp r2 w hw
  next => cases hk
def rckZ (w : Cond) : Bool := match w with
  | .castable _ _ => true
  | .methodLinkNest _ _ _ _ => true
  | .declares _ => true
  | _ => false
theorem rckZ_all : (rTW ++ rTWd).all rckZ = true := by decide +kernel
theorem re_o14 : ∀ w ∈ re_TW rN, (∃ C T, w = .castable C T) ∨ (∃ a i x z, w = .methodLinkNest a i x z) ∨ ∃ x, w = .declares x := by
  intro w hw
  have hk := List.all_eq_true.mp rckZ_all w hw
  unfold rckZ at hk
  split at hk
  next => exact Or.inl ⟨_, _, rfl⟩
  next => exact Or.inr (Or.inl ⟨_, _, _, _, rfl⟩)
  next => exact Or.inr (Or.inr ⟨_, rfl⟩)
  next => cases hk
def rckH (c t : Nat) : Bool := match rHk c t with
  | none => true
  | some x => match rHw c t with
    | some w => decide (x < 3) && (decide (¬ t = 0) && (re_wat w (.classLink (rCn c) t (rXn x)) && decide ((rTW ++ rTWd)[rXc.getD x 0]? = some (.castable (rXn x) (rXn x)))))
    | none => false
theorem rckHk_all : (List.range 22).all (re_two rckH) = true := by decide +kernel
theorem re_o15 : ∀ y t x, re_hk rG y t = some x → x < 3 ∧ ¬ t = 0 ∧ Cond.classLink (re_yn rN y).cls t (re_xn rN x) ∈ re_B rN ∧ Cond.castable (re_xn rN x) (re_xn rN x) ∈ re_TW rN := by
  intro y t x h
  have h : rHk (Nat.div y 64) t = some x := h
  have hk : rckH (Nat.div y 64) t = true := re_two_ok rckHk_all (re_cond (by unfold rHk at h; exact h))
  unfold rckH at hk
  rw [h] at hk
  dsimp only at hk
  split at hk
  next w hw =>
    simp only [Bool.and_eq_true, decide_eq_true_eq] at hk
    obtain ⟨k1, k2, k3, k4⟩ := hk
    exact ⟨k1, k2, by show Cond.classLink (rYn y).cls _ _ ∈ _; rw [re_cls_eq]; exact re_wat_ok k3, List.mem_of_getElem? k4⟩
  next => cases hk
/-- the tables of this claim are right -/
theorem rOk : re_ok rN rG := ⟨re_o1, re_o2, re_o3, re_o4, re_o5, re_o6, re_o7, re_o8, re_o9, re_o10, re_o11, re_o12, fun _ hw => (List.mem_filter.mp hw).2, re_o14, re_o15⟩
end
section
/-! The known member of the library: the tables are right. -/
def rckD (c idx : Nat) : Bool := match rJd c idx with
  | none => true
  | some (k, _) => match rJw c idx with
    | none => false
    | some ws => (!decide (k = 1) || (re_wat (ws.getD 0 0) (.methodLink (rCn c) idx Lib.MathLoose.min_long.x) && (re_wat (ws.getD 1 0) (.static Lib.MathLoose.min_long.x) && (re_wat (ws.getD 2 0) (.initialized "java/lang/Math") && re_wat (ws.getD 3 0) (.code Lib.MathLoose.min_long.x Lib.MathLoose.min_long.code 4 (some .long))))))
theorem rckD_all : (List.range 22).all (re_two rckD) = true := by decide +kernel
theorem rOkJ : re_okJ rN rG := by
  intro y idx k y' h
  have h : rJd (Nat.div y 64) idx = some (k, y') := h
  have hk : rckD (Nat.div y 64) idx = true := re_two_ok rckD_all (re_cond (by unfold rJd at h; exact h))
  unfold rckD at hk
  rw [h] at hk
  dsimp only at hk
  split at hk
  next => cases hk
  next ws hw =>
    rw [← re_cls_eq] at hk
    intro e
    subst e
    simp only [decide_true, Bool.not_true, Bool.false_or, Bool.and_eq_true] at hk
    exact ⟨re_wat_ok hk.1, re_wat_ok hk.2.1, re_wat_ok hk.2.2.1, re_wat_ok hk.2.2.2⟩
end
section
/-! The law's start: what a state is there. -/
theorem re_arr_p {s : State} {args : Array Value} {ty : FieldType} (hty : ty = .int ∨ ty = .long ∨ ty = .boolean) (h : (Cond.arrayClass ty).before args s = true) : ∃ c, ArrOfT s c ty ∧ va_RA s c ty := by
  obtain ⟨c, k, comp, h1, h2, h3⟩ := Cond.arrayClass_spec h
  refine ⟨c, fun N z => ⟨(fun k h => by cases h), k, h2, comp, h3⟩, ?_⟩
  rcases hty with rfl | rfl | rfl <;> exact h1
theorem re_arr_o {s : State} {C : String} (h : va_AO C s) : ∃ c, ArrOfT s c (.object C) ∧ va_RA s c (.object C) := by
  obtain ⟨comp, c, k, h1, h2, h3, h4, h5⟩ := Cond.arrayOver_spec (args := #[]) h
  exact ⟨c, fun N z => ⟨(fun k h => by cases h), k, h3, comp, h4⟩, k, comp, h3, h4, h1, h5⟩
theorem re_str {s : State} {args : Array Value} {own text : String} {index : Nat} (h : (Cond.stringRef own index text).before args s = true) : ∃ a, vk_R own index text a s := by
  cases hc : s.vm.findClass own with
  | none => simp [Cond.before, Cond.holds, Cond.value, hc] at h
  | some cc =>
    obtain ⟨k1, cf, i, a, hk, hcf, hp, -, hr, -⟩ := Cond.stringRef_spec hc h
    refine ⟨a, vk_R.of h ?_⟩
    simp [Term.eval, State.resolvedAt?, hc, hk, hr]
theorem rSt_inst : (List.range 22).all (fun ci => match rCl[ci]? with
  | none => true
  | some r => decide (Cond.instantiable r.1 r.2.2 ∈ lw_tbl)) = true := by decide +kernel
theorem rSt_over : rEl.all (fun t => match t with
  | .object C => decide (Cond.arrayOver (.object C) ∈ lw_tbl)
  | _ => true) = true := by decide +kernel
theorem rSt_str : rSL.all (fun q => decide (Cond.stringRef q.1 q.2.1 q.2.2 ∈ lw_tbl)) = true := by decide +kernel
theorem rSt_tw : (List.range (rTW ++ rTWd).length).all (fun i => decide (lw_tbl[(rTWat ++ rTWdat).getD i 0]? = (rTW ++ rTWd)[i]?)) = true := by decide +kernel
theorem rSt_lu : Cond.laysStatic Bundle.tN "UNASSIGNED_STACK" Bundle.steD ∈ lw_tbl := by decide +kernel
theorem rSt_ln : Cond.laysStatic Bundle.tN "SUPPRESSED_SENTINEL" Bundle.listD ∈ lw_tbl := by decide +kernel
theorem rSt_in : Cond.initialized Bundle.tN ∈ lw_tbl := by decide +kernel
/-- the outside references: the script -/
def rOut (t mi b : Nat) : Nat → Nat := fun n => if n = 0 then t else if n = 3 then mi else b
theorem rSt {args : Array Value} {s : State} {b L : Nat} {xs : Nat → Int32} (hts : ∀ w ∈ lw_tbl, w.before args s = true) (hX : va_X b L xs s s.heap) (hbl : b < s.heap.size) (hgv : (Jvm.Cond.and given_1 narrow_1).before args s = true) (ρ : Nat → Int32) (σ : Nat → Int64) :
    ∃ (D : va_G) (tys : List (ClassId × FieldType)) (cA : Nat → ClassId) (t mi : Nat), re_At ((rOut t mi b, ρ, σ, L, xs) : re_V) rN D tys s.heap.size s ∧ ∀ j, j < re_nE rG → tys[j]? = some (cA j, re_E rN j) := by
  have hB : ∀ w ∈ re_B rN, w.before args s = true := fun w hw => hts w (List.mem_filter.mp hw).1
  have hfl := flat_of_before _ hgv
  have hcls : ∀ ci : Nat, ∃ q : ClassId × (Nat → Nat), ∀ r : vw_C, rCl[ci]? = some r → u_Kn s r.1 r.2.1 r.2.2 q.1 q.2 := by
    intro ci
    cases hr : rCl[ci]? with
    | none => exact ⟨(0, fun _ => 0), fun r h => by cases h⟩
    | some r =>
      have hlt : ci < 22 := by
        have h1 := (List.getElem?_eq_some_iff.mp hr).1
        have h2 := rCl_len
        omega
      have h3 := re_rng rSt_inst hlt
      rw [hr] at h3
      obtain ⟨c, i, h⟩ := u_known hB (re_o3.2 ci r hr).1 (hts _ (of_decide_eq_true h3))
      exact ⟨(c, i), fun r' h' => by cases h'; exact h⟩
  have hover : ∀ (j : Nat) (C : String), rE j = .object C → va_AO C s := by
    intro j C hj
    have hlt : j < rEl.length := by
      rcases Nat.lt_or_ge j rEl.length with h | h
      · exact h
      · unfold rE at hj
        rw [List.getD_eq_getElem?_getD, List.getElem?_eq_none h] at hj
        cases hj
    have hm : rEl[j] ∈ rEl := List.getElem_mem hlt
    have he : rEl[j] = .object C := by
      unfold rE at hj
      rw [List.getD_eq_getElem?_getD, List.getElem?_eq_getElem hlt] at hj
      exact hj
    have h1 := List.all_eq_true.mp rSt_over _ hm
    rw [he] at h1
    exact va_AO.of (hts _ (of_decide_eq_true h1))
  have harr : ∀ j : Nat, ∃ c : ClassId, j < re_nE rG → ArrOfT s c (rE j) ∧ va_RA s c (rE j) := by
    intro j
    rcases Nat.lt_or_ge j 3 with h | h
    · have hj : j = 0 ∨ j = 1 ∨ j = 2 := by omega
      rcases hj with rfl | rfl | rfl
      · obtain ⟨c, hc⟩ := re_arr_p (Or.inl rfl) (hB _ re_o10.1)
        exact ⟨c, fun _ => hc⟩
      · obtain ⟨c, hc⟩ := re_arr_p (Or.inr (Or.inl rfl)) (hB _ re_o10.2.1)
        exact ⟨c, fun _ => hc⟩
      · obtain ⟨c, hc⟩ := re_arr_p (Or.inr (Or.inr rfl)) (hB _ re_o10.2.2)
        exact ⟨c, fun _ => hc⟩
    · rcases Nat.lt_or_ge j (re_nE rG) with h2 | h2
      · obtain ⟨nm, hnm⟩ := re_o4.2.2.2.2 j h h2
        have hnm : rE j = .object nm := hnm
        obtain ⟨c, hc⟩ := re_arr_o (hover j nm hnm)
        exact ⟨c, fun _ => by rw [hnm]; exact hc⟩
      · exact ⟨0, fun z => absurd z (by omega)⟩
  obtain ⟨f, hf⟩ := Classical.axiomOfChoice hcls
  obtain ⟨g, hg⟩ := Classical.axiomOfChoice harr
  have hty : ∀ j, j < re_nE rG → ((List.range (re_nE rG)).map (fun j => (g j, rE j)))[j]? = some (g j, rE j) := fun j hj => by
    rw [List.getElem?_map, List.getElem?_range hj]
    rfl
  refine ⟨(fun c => (f c).1, fun c => (f c).2), (List.range (re_nE rG)).map (fun j => (g j, rE j)), g, 0, 0, ⟨⟨fun c q hq => hf c q hq, fun k q hk => ?_⟩, ?_, ?_, fun q hq => ?_, Nat.le_refl _, hover, fun w hw => ⟨re_o14 w hw, ?_⟩, hX, hbl, ?_, trivial⟩, hty⟩
  · obtain ⟨j, hj, rfl⟩ := List.mem_map.mp (List.mem_of_getElem? hk)
    exact hg j (List.mem_range.mp hj)
  · exact vx_Zqof (hts _ rSt_lu) (hts _ rSt_in) (hfl _ (by decide +kernel)) (fun a ha => Nat.not_le.mpr ha)
  · exact vx_Zqof (hts _ rSt_ln) (hts _ rSt_in) (hfl _ (by decide +kernel)) (fun a ha => Nat.not_le.mpr ha)
  · exact re_str (hts _ (of_decide_eq_true (List.all_eq_true.mp rSt_str q hq)))
  · have hin : w ∈ lw_tbl := by
      obtain ⟨i, hi⟩ := List.getElem?_of_mem hw
      have hi : (rTW ++ rTWd)[i]? = some w := hi
      have h1 := re_rng rSt_tw (List.getElem?_eq_some_iff.mp hi).1
      have h2 := of_decide_eq_true h1
      rw [hi] at h2
      exact List.mem_of_getElem? h2
    rcases re_o14 w hw with ⟨C, T, rfl⟩ | ⟨a, i, x, z, rfl⟩ | ⟨x, rfl⟩
    · exact va_Nw.of rfl (hts _ hin)
    · exact va_Nw.of rfl (hts _ hin)
    · exact va_Nw.of rfl (hts _ hin)
  · intro x x' h1 h2 hne
    have hx : x = 0 ∨ x = 1 ∨ x = 2 := by omega
    have hx' : x' = 0 ∨ x' = 1 ∨ x' = 2 := by omega
    rcases hx with rfl | rfl | rfl <;> rcases hx' with rfl | rfl | rfl <;> first | exact absurd rfl hne | exact va_Nc.of (hfl _ (by decide +kernel))
end
section
/-! THE CLAIM OUT OF ONE WALK OF THE LAW'S BODY. Your part is whole_start (and what it stands on); all else here is the same for every law, but numbers. -/
def R_law : String := "CellbrookLaw"
def lw_P (b : Addr) (xs : List Int32) (args : Array Value) (s : State) : Prop := args = #[.ref b] ∧ s.IntsAt b xs ∧ xs.length ≤ 260 ∧ (Jvm.Cond.and given_1 narrow_1).before args s = true
def lw_Q (_ : Array Value) (s : State) (o : Outcome) (t : State) : Prop := o = .returned (some (.int 1)) ∧ Framed s o t [] 641989 7175502
def lw_Z (below : List Frame) (a : Array Value) (s : State) : State → Prop := fun t => ∃ o, t.status = .running ∧ Ended t below o ∧ lw_Q a s o t
/-- the law's own end, with 1 on the stack, nothing written that was there before, its room as the claim has it -/
theorem lw_ret {p : Program} {l : Launch} {e : Env} {s : State} {m : MethodId} {below : List Frame} {meth : Method} {c : Code} {b : Nat} (hx : p.tables.exec = Jvm.exec) (hb : c.code = code) (hr : meth.sig.returnType = ret) (hlocks : meth.locks = false) {pc : Nat} {H : Heap} {ls : Array Slot} (hdg : decode code pc = .ok (.ireturn, 1)) : W p l e room_1 s m #[Value.ref b] below meth c H [] 641989 7175502 (lw_Z below #[Value.ref b] s) (F0 m pc ls [.int 1]) := by
  intro T hT X
  obtain ⟨fs, hret, hrun, hended, hW, hframe⟩ := X.leave (v := some (.int 1)) (hlocks := hlocks) (fun h => by rw [hr] at h; cases h)
  have hmeth' : T.vm.method? m = some meth := X.method'
  refine ⟨T.setFrames fs, ?_, .returned (some (.int 1)), hrun, hended, rfl, ⟨_, rfl⟩, hW, hframe⟩
  jvm_step X.here [X.here.top, hx, hb, hdg, hmeth', hr, ret, narrow_b1]
  (try refine ⟨rfl, ?_⟩); (try refine ⟨rfl, ?_⟩)
  first | (intro acts; rw [hret _ acts rfl rfl rfl]) | rw [hret _ _ rfl rfl rfl]
  exact Steps.refl _
/-- what holds at the law's entry: the machine, the code, the tables' words (any of lw_tbl by 'hts w (by decide +kernel)'), the script of L ints xs at the cell b, what the Statement gives of the start (any of its parts by flat_of_before) -/
def lw_At (p : Program) (s : State) (m : MethodId) (meth : Method) (c : Code) (b L : Nat) (xs : Nat → Int32) : Prop :=
  p.tables.exec = Jvm.exec ∧ c.code = code ∧ meth.sig.returnType = ret ∧ c.maxLocals = 9 ∧ s.vm.findClass R_law = some m.cls ∧ (∀ w ∈ lw_tbl, w.before #[Value.ref b] s = true) ∧ va_X b L xs s s.heap ∧ b < s.heap.size ∧ meth.locks = false ∧ (Jvm.Cond.and given_1 narrow_1).before #[Value.ref b] s = true
end
section
/-! The law, out of one evaluation. -/
def rLawY : Nat := 588
theorem W.mono9 {p : Program} {l : Launch} {e : Env} {R : Room} {s : State} {m : MethodId} {args : Array Value} {below : List Frame} {meth : Method} {c : Code} {H : Heap} {locs : List Loc} {cells slots : Nat} {Q Q' : State → Prop} {g : JFrame} (k : W p l e R s m args below meth c H locs cells slots Q g) (h : ∀ t, Q t → Q' t) : W p l e R s m args below meth c H locs cells slots Q' g := by
  intro T hT X
  obtain ⟨t, a, b⟩ := k T hT X
  exact ⟨t, a, h t b⟩
theorem rLaw {p : Program} {e : Env} {s : State} {m : MethodId} {below : List Frame} {meth : Method} {c : Code} (l : Launch) (hst : l.stackTraces = false) {b L : Nat} {xs : Nat → Int32}
    (hx : p.tables.exec = Jvm.exec) (hb : c.code = code) (hr : meth.sig.returnType = ret) (hml : c.maxLocals = maxLocals) (hown : s.vm.findClass R_law = some m.cls) (hts : ∀ w ∈ lw_tbl, w.before #[Value.ref b] s = true) (hX : va_X b L xs s s.heap) (hbl : b < s.heap.size) (hlocks : meth.locks = false) (hgv : (Jvm.Cond.and given_1 narrow_1).before #[Value.ref b] s = true)
    (hcw : (Cond.code x code maxLocals ret).before #[Value.ref b] s = true) (hname : meth.name = "law") (hexc : c.exceptionTable.toList = [])
    {O : re_K} (ρ : Nat → Int32) (σ : Nat → Int64) (hO : ∀ A1 : Nat → Nat, re_Ook ((A1, ρ, σ, L, xs) : re_V) O.1) (hOA : ∀ A1 : Nat → Nat, re_Aok ((A1, ρ, σ, L, xs) : re_V) O.2.1) (hSC : ∀ A1 : Nat → Nat, re_Sok ((A1, ρ, σ, L, xs) : re_V) O.2.2.1)
    (hPM : ∀ (A1 : Nat → Nat) (D : va_G) (tys : List (ClassId × FieldType)) (cA : Nat → ClassId), (∀ j, j < re_nE rG → tys[j]? = some (cA j, re_E rN j)) → re_Pok ((A1, ρ, σ, L, xs) : re_V) O rN rG l D tys cA s.heap.size)
    {n : Nat} {res : re_Res} (hgo : re_go rG O n rLawY 0 (lv_args 0 [.retAddr 2]) [] re_h0 = some res) (h1 : res.1 = 1) (h2 : res.2.1 = .int 1) (hk : res.2.2.2.1 ≤ room_1.cells) (hs : res.2.2.2.2.1 ≤ room_1.slots) (hf : res.2.2.2.2.2.1 ≤ room_1.frames) (hlo : res.2.2.2.2.2.2 ≤ room_1.locals) :
    W p l e room_1 s m #[Value.ref b] below meth c s.heap [] 0 0 (lw_Z below #[Value.ref b] s) (entryFrame m ([Value.ref b] : List Value).toArray maxLocals) := by
  obtain ⟨D, tys, cA, t9, mi9, hAt, hE⟩ := rSt hts hX hbl hgv ρ σ
  have hJ := re_all (l := l) (D := D) (tys := tys) (cA := cA) (B0 := s.heap.size) hst (hO (rOut t9 mi9 b)) (hOA (rOut t9 mi9 b)) (hSC (rOut t9 mi9 b)) (hPM (rOut t9 mi9 b) D tys cA hE) rOk rOkJ hE n
  have hl := lv_entry ([Value.ref b]) (n := maxLocals) (Nat.le_of_ble_eq_true rfl)
  rw [lg_entry_eq]
  generalize (lg_sl ([Value.ref b]) ++ List.replicate (maxLocals - (lg_sl ([Value.ref b])).length) Slot.unset).toArray = ls at hl ⊢
  have hF : re_Fr ((rOut t9 mi9 b, ρ, σ, L, xs) : re_V) rN rG D tys s.heap.size rLawY p s m #[Value.ref b] meth c := by
    refine ⟨hx, hb, hml, hr, hown, fun w hw => ?_, hlocks, hname, by rw [hexc]; rfl, hAt⟩
    rcases List.mem_cons.mp hw with rfl | hw
    · exact hcw
    · exact hts _ (List.mem_filter.mp hw).1
  refine W.mono9 (hJ rLawY 0 _ [] re_h0 res hgo p e room_1 s m #[Value.ref b] below meth c hF s.heap [] 0 0 ls _ [] [] [] [] hl (re_args 0 (vs := [.retAddr 2]) (ws := [.ref b]) ⟨rfl, trivial⟩) trivial ⟨⟨rfl, rfl, fun i c h => absurd (re_hg_lt h).1 (Nat.not_lt_zero i), trivial, fun i a h => (by cases h)⟩, fun k q h => (by cases h), ⟨fun i j p q h => (by cases h), fun k q h => (by cases h)⟩⟩ va_S.rf room_1.cells room_1.slots (by omega) (by omega) (Nat.le_refl _) (Nat.le_refl _) hf hlo) (fun t ht => ?_)
  obtain ⟨o, g1, g2, g3⟩ := ht
  rcases g3 with ⟨⟨⟨w, q, ws2, rfl, -, -, hv, -⟩, -⟩, Lo, ⟨-, hW, hsb⟩, hfree⟩ | ⟨q, rfl, E9, ce, L9, ⟨⟨x9, q9, ws9, hk9, -⟩, -⟩, -⟩
  · obtain ⟨w', rfl, hw'⟩ := hv (by omega)
    rw [h2] at hw'
    cases (show w' = .int 1 from hw')
    refine ⟨_, g1, g2, rfl, ⟨_, rfl⟩, hW, ?_⟩
    obtain ⟨b1, b2, b3, b4, b5, b6⟩ := hsb
    refine ⟨b1, b2, b3, b4, b5, fun a c hc => ?_⟩
    obtain ⟨c', d1, d2, d3, d4⟩ := b6 a c hc
    refine ⟨c', d1, d2, d3, fun i _ => d4 i (fun hm => ?_)⟩
    have := hfree _ hm
    have hlt := (Array.getElem?_eq_some_iff.mp hc).1
    exact absurd this (Nat.not_le.mpr hlt)
  · omega
end
section
/-! More fuel, more locals: the walk stays what it was. -/
def re_sb (lv lv' : List (Nat × Value)) : Prop := ∀ (i : Nat) (v : Value), re_lk lv i = some v → re_lk lv' i = some v
def re_isL : Instr → Bool
  | .iload _ => true
  | .iload_n _ => true
  | .lload _ => true
  | .lload_n _ => true
  | .aload _ => true
  | .aload_n _ => true
  | .iinc _ _ => true
  | _ => false
theorem re_sb_c2 {lv lv' : List (Nat × Value)} (hs : re_sb lv lv') {j : Nat} {u : Value} (h : re_lk lv j = some u) : re_c2 lv j = re_c2 lv' j := by
  rw [re_c2_some h, re_c2_some (hs j u h)]
theorem re_sb_cons {lv lv' : List (Nat × Value)} (i : Nat) (v : Value) (hs : re_sb lv lv') : re_sb ((i, v) :: lv) ((i, v) :: lv') := by
  intro j u hj
  rw [re_lk_cons] at hj ⊢
  split at hj
  next e => rw [if_pos e]; exact hj
  next e => rw [if_neg e]; exact hs j u hj
theorem re_sb_filter {lv lv' : List (Nat × Value)} (p p' : Nat → Bool) (hp : ∀ (j : Nat) (u : Value), re_lk lv j = some u → p j = true → p' j = true) (hs : re_sb lv lv') : re_sb (lv.filter (fun q => p q.1)) (lv'.filter (fun q => p' q.1)) := by
  intro j u hj
  rw [re_lk_filter] at hj ⊢
  split at hj
  next e => rw [if_pos (hp j u hj e)]; exact hs j u hj
  next => cases hj
theorem re_sb_s1 {lv lv' : List (Nat × Value)} (i : Nat) (v : Value) (hs : re_sb lv lv') : re_sb (re_s1 lv i v) (re_s1 lv' i v) :=
  re_sb_cons i v (re_sb_filter (fun j => !(j == i) && !(j + 1 == i && re_c2 lv j)) (fun j => !(j == i) && !(j + 1 == i && re_c2 lv' j)) (fun j u h1 h2 => by
    rw [← re_sb_c2 hs h1]
    exact h2) hs)
theorem re_sb_s2 {lv lv' : List (Nat × Value)} (i : Nat) (v : Value) (hs : re_sb lv lv') : re_sb (re_s2 lv i v) (re_s2 lv' i v) :=
  re_sb_cons i v (re_sb_filter (fun j => !(j == i) && (!(j == i + 1) && !(j + 1 == i && re_c2 lv j))) (fun j => !(j == i) && (!(j == i + 1) && !(j + 1 == i && re_c2 lv' j))) (fun j u h1 h2 => by
    rw [← re_sb_c2 hs h1]
    exact h2) hs)
theorem re_sb_9 {lv lv' : List (Nat × Value)} (i : Nat) (hs : re_sb lv lv') : re_sb (re_lv9 lv i) (re_lv9 lv' i) :=
  re_sb_filter (fun j => !(j == i) && !(j + 1 == i && re_c2 lv j)) (fun j => !(j == i) && !(j + 1 == i && re_c2 lv' j)) (fun j u h1 h2 => by
    rw [← re_sb_c2 hs h1]
    exact h2) hs
theorem re_pure_sb {O : re_O} {nL pc : Nat} {lv lv' : List (Nat × Value)} {st : List Value} {ins : Instr} {q : Nat × List (Nat × Value) × List Value} (hs : re_sb lv lv') (h : re_pure O nL pc lv st ins = some q) : ∃ lv2, re_pure O nL pc lv' st ins = some (q.1, lv2, q.2.2) ∧ re_sb q.2.1 lv2 := by
  cases ins
  case iload i =>
    simp only [re_pure] at h ⊢
    split at h
    next x e => cases h; rw [hs _ _ e]; exact ⟨_, rfl, hs⟩
    next x e => cases h; rw [hs _ _ e]; exact ⟨_, rfl, hs⟩
    next => cases h
  case iload_n i =>
    simp only [re_pure] at h ⊢
    split at h
    next x e => cases h; rw [hs _ _ e]; exact ⟨_, rfl, hs⟩
    next x e => cases h; rw [hs _ _ e]; exact ⟨_, rfl, hs⟩
    next => cases h
  case lload i =>
    simp only [re_pure] at h ⊢
    split at h
    next x e => cases h; rw [hs _ _ e]; exact ⟨_, rfl, hs⟩
    next x e => cases h; rw [hs _ _ e]; exact ⟨_, rfl, hs⟩
    next => cases h
  case lload_n i =>
    simp only [re_pure] at h ⊢
    split at h
    next x e => cases h; rw [hs _ _ e]; exact ⟨_, rfl, hs⟩
    next x e => cases h; rw [hs _ _ e]; exact ⟨_, rfl, hs⟩
    next => cases h
  case aload i =>
    simp only [re_pure] at h ⊢
    split at h
    next x e => cases h; rw [hs _ _ e]; exact ⟨_, rfl, hs⟩
    next e => cases h; rw [hs _ _ e]; exact ⟨_, rfl, hs⟩
    next x e => cases h; rw [hs _ _ e]; exact ⟨_, rfl, hs⟩
    next => cases h
  case aload_n i =>
    simp only [re_pure] at h ⊢
    split at h
    next x e => cases h; rw [hs _ _ e]; exact ⟨_, rfl, hs⟩
    next e => cases h; rw [hs _ _ e]; exact ⟨_, rfl, hs⟩
    next x e => cases h; rw [hs _ _ e]; exact ⟨_, rfl, hs⟩
    next => cases h
  case iinc i n =>
    simp only [re_pure] at h ⊢
    split at h
    next x e =>
      rw [hs _ _ e]
      dsimp only
      split at h
      next e2 => cases h; rw [if_pos e2]; exact ⟨_, rfl, re_sb_s1 _ _ hs⟩
      next => cases h
    next => cases h
  all_goals
    simp only [re_pure] at h ⊢
    first
    | (cases h; exact ⟨_, rfl, hs⟩)
    | (repeat' split at h) <;> first
      | (cases h; done)
      | (cases h; exact ⟨_, rfl, hs⟩)
      | (cases h; exact ⟨_, rfl, re_sb_s1 _ _ hs⟩)
      | (cases h; exact ⟨_, rfl, re_sb_s2 _ _ hs⟩)
      | (cases h; simp only [*]; exact ⟨_, rfl, hs⟩)
      | (cases h; simp only [*, if_true]; exact ⟨_, rfl, re_sb_s1 _ _ hs⟩)
      | (cases h; simp only [*, if_true]; exact ⟨_, rfl, re_sb_s2 _ _ hs⟩)
      | (cases h; simp only [*, if_true, if_false]; exact ⟨_, rfl, hs⟩)
theorem re_pure_no {O : re_O} {nL pc : Nat} {lv lv' : List (Nat × Value)} {st : List Value} {ins : Instr} (hi : re_isL ins = false) (h : re_pure O nL pc lv st ins = none) : re_pure O nL pc lv' st ins = none := by
  cases ins
  case iload i => cases hi
  case iload_n i => cases hi
  case lload i => cases hi
  case lload_n i => cases hi
  case aload i => cases hi
  case aload_n i => cases hi
  case iinc i n => cases hi
  all_goals
    simp only [re_pure] at h ⊢
    first
    | done
    | (cases h; done)
    | exact h
    | (repeat' split at h) <;> first
      | (cases h; done)
      | rfl
      | (simp only [*]; done)
      | (simp only [*, if_false]; done)
      | (simp only [*, if_true]; done)
theorem re_map_some {α β : Type} {f : α → β} {a b : Option α} {r : β} (h : a.map f = some r) (hab : ∀ x, a = some x → b = some x) : b.map f = some r := by
  cases a with
  | none => cases h
  | some x => rw [hab x rfl]; exact h
theorem re_isL_none {O : re_K} {G : re_G} {n y pc : Nat} {lv : List (Nat × Value)} {st : List Value} {h : re_H} {ins : Instr} {r : re_Res} (h0 : re_tw G y pc = none) (h1 : re_ins G y pc = some ins) (h2 : re_pure O.1 (re_nl G y) pc lv st ins = none) (hi : re_isL ins = true) : ¬ re_go G O (n + 1) y pc lv st h = some r := by
  intro z
  rw [re_go.eq_def] at z
  simp only [h0, h1, h2] at z
  cases ins <;> first | (cases hi; done) | (simp [re_hp, re_ret, re_mk, re_cst, re_acm, re_ora, re_scr, re_jdk, re_inv] at z; done)
theorem re_more {G : re_G} {O : re_K} : ∀ (n m y pc : Nat) (lv lv' : List (Nat × Value)) (st : List Value) (h : re_H) (r : re_Res), n ≤ m → re_sb lv lv' → re_go G O n y pc lv st h = some r → re_go G O m y pc lv' st h = some r := by
  intro n
  induction n with
  | zero => intro m y pc lv lv' st h r _ _ z; cases z
  | succ n ih =>
    intro m y pc lv lv' st h r hm hs hgo
    obtain ⟨m, rfl⟩ : ∃ k, m = k + 1 := ⟨m - 1, by omega⟩
    have hnm : n ≤ m := by omega
    have hid : ∀ {a : List (Nat × Value)}, re_sb a a := fun i v z => z
    have hgo0 := hgo
    rw [re_go.eq_def] at hgo ⊢
    dsimp only at hgo ⊢
    cases htw : re_tw G y pc with
    | some x => rw [htw] at hgo; exact hgo
    | none =>
    rw [htw] at hgo
    dsimp only at hgo ⊢
    cases hins : re_ins G y pc with
    | none => rw [hins] at hgo; cases hgo
    | some ins =>
    rw [hins] at hgo
    dsimp only at hgo ⊢
    cases hp : re_pure O.1 (re_nl G y) pc lv st ins with
    | some q =>
      obtain ⟨lv2, e1, e2⟩ := re_pure_sb hs hp
      rw [hp] at hgo
      rw [e1]
      exact ih m y _ _ _ _ _ r hnm e2 hgo
    | none =>
    have hL : re_isL ins = false := by
      cases hz : re_isL ins with
      | false => rfl
      | true => exact absurd hgo0 (re_isL_none htw hins hp hz)
    rw [hp] at hgo
    rw [re_pure_no hL hp]
    dsimp only at hgo ⊢
    cases h2 : re_hp (re_nE G) (re_fl G y) (re_ec G) (re_isI G y) pc st h ins with
    | some q => rw [h2] at hgo; exact ih m y _ _ _ _ _ r hnm hs hgo
    | none =>
    rw [h2] at hgo
    dsimp only at hgo ⊢
    cases h3 : re_ret (re_rt G y) ins st with
    | some q => rw [h3] at hgo; exact hgo
    | none =>
    rw [h3] at hgo
    dsimp only at hgo ⊢
    cases h4 : re_mk (re_nw G y) (re_an G y) pc st h.1 ins with
    | some q => rw [h4] at hgo; exact re_map_some hgo (fun x hx => ih m y _ _ _ _ _ x hnm hs hx)
    | none =>
    rw [h4] at hgo
    dsimp only at hgo ⊢
    cases h5 : re_cst (re_ks G y) pc ins with
    | some q => rw [h5] at hgo; exact ih m y _ _ _ _ _ r hnm hs hgo
    | none =>
    rw [h5] at hgo
    dsimp only at hgo ⊢
    cases h6 : re_acm pc st ins with
    | some q => rw [h6] at hgo; exact ih m y _ _ _ _ _ r hnm hs hgo
    | none =>
    rw [h6] at hgo
    dsimp only at hgo ⊢
    cases h7 : re_ora O.2.1 pc st ins with
    | some q => rw [h7] at hgo; exact ih m y _ _ _ _ _ r hnm hs hgo
    | none =>
    rw [h7] at hgo
    dsimp only at hgo ⊢
    cases h8 : re_scr O.2.2.1 pc st ins with
    | some q => rw [h8] at hgo; exact ih m y _ _ _ _ _ r hnm hs hgo
    | none =>
    rw [h8] at hgo
    dsimp only at hgo ⊢
    cases h9 : re_jdk (re_jd G y) pc st ins with
    | some q => rw [h9] at hgo; exact re_map_some hgo (fun x hx => ih m y _ _ _ _ _ x hnm hs hx)
    | none =>
    rw [h9] at hgo
    dsimp only at hgo ⊢
    cases h10 : re_inv (re_cl G y) ins with
    | none => rw [h10] at hgo; cases hgo
    | some q9 =>
    obtain ⟨k, y', na⟩ := q9
    rw [h10] at hgo
    dsimp only at hgo ⊢
    have hafter : ∀ (a : re_Res) (rest : List Value), (if a.1 < 4 then (re_go G O n y (pc + 3) lv (re_vl a rest) a.2.2.1).map (re_aft (re_nl G y') a) else (match re_hf (re_hk G y) pc (a.1 - 4) (re_hh G y) with
                      | some none => some (re_aft (re_nl G y') a (a.1, a.2.1, a.2.2.1, 0, 0, 0, 0))
                      | some (some hp) => (match re_hs (re_nl G y) (re_ins G y hp) hp with
                        | some (k, npc) => (re_go G O n y npc (re_lv9 lv k) [] a.2.2.1).map (re_aft (re_nl G y') a)
                        | none => none)
                      | none => none)) = some r → (if a.1 < 4 then (re_go G O m y (pc + 3) lv' (re_vl a rest) a.2.2.1).map (re_aft (re_nl G y') a) else (match re_hf (re_hk G y) pc (a.1 - 4) (re_hh G y) with
                      | some none => some (re_aft (re_nl G y') a (a.1, a.2.1, a.2.2.1, 0, 0, 0, 0))
                      | some (some hp) => (match re_hs (re_nl G y) (re_ins G y hp) hp with
                        | some (k, npc) => (re_go G O m y npc (re_lv9 lv' k) [] a.2.2.1).map (re_aft (re_nl G y') a)
                        | none => none)
                      | none => none)) = some r := by
      intro a rest z
      rcases Nat.decLt a.1 4 with ha | ha
      · rw [if_neg ha] at z ⊢
        cases hf : re_hf (re_hk G y) pc (a.1 - 4) (re_hh G y) with
        | none => rw [hf] at z; cases z
        | some o =>
          cases o with
          | none => rw [hf] at z; exact z
          | some hp9 =>
            rw [hf] at z
            dsimp only at z ⊢
            cases hg : re_hs (re_nl G y) (re_ins G y hp9) hp9 with
            | none => rw [hg] at z; cases z
            | some w =>
              obtain ⟨k8, npc⟩ := w
              rw [hg] at z
              exact re_map_some z (fun x hx => ih m y _ _ _ _ _ x hnm (re_sb_9 _ hs) hx)
      · rw [if_pos ha] at z ⊢
        exact re_map_some z (fun x hx => ih m y _ _ _ _ _ x hnm hs hx)
    split at hgo
    next hk3 =>
      rw [if_pos hk3]
      split at hgo
      next i rest =>
        split at hgo
        next hc => rw [if_pos hc]; exact re_map_some hgo (fun x hx => ih m y _ _ _ _ _ x hnm hs hx)
        next => cases hgo
      next => cases hgo
    next hk3 =>
    rw [if_neg hk3]
    split at hgo
    next hk4 =>
      rw [if_pos hk4]
      split at hgo
      next hc =>
        rw [if_pos hc]
        cases hk9 : O.2.2.2 y' (st.take na).reverse h with
        | some b =>
          rw [hk9] at hgo
          exact hafter b _ hgo
        | none =>
          rw [hk9] at hgo
          dsimp only at hgo ⊢
          cases hc9 : re_go G O n y' 0 (lv_args 0 (st.take na).reverse) [] h with
          | none => rw [hc9] at hgo; cases hgo
          | some a =>
            rw [hc9] at hgo
            rw [ih m y' 0 _ _ _ _ a hnm hid hc9]
            exact hafter a _ hgo
      next => cases hgo
    next hk4 =>
      rw [if_neg hk4]
      split at hgo
      next i rest hdr =>
        split at hgo
        next hc =>
          rw [if_pos hc]
          split at hgo
          next t vs hi =>
            split at hgo
            next ht =>
              rw [if_pos ht]
              cases hk9 : O.2.2.2 y' (.ref i :: (st.take na).reverse) h with
              | some b =>
                rw [hk9] at hgo
                exact hafter b _ hgo
              | none =>
                rw [hk9] at hgo
                dsimp only at hgo ⊢
                cases hc9 : re_go G O n y' 0 (lv_args 0 (.ref i :: (st.take na).reverse)) [] h with
                | none => rw [hc9] at hgo; cases hgo
                | some a =>
                  rw [hc9] at hgo
                  rw [ih m y' 0 _ _ _ _ a hnm hid hc9]
                  exact hafter a _ hgo
            next => cases hgo
          next => cases hgo
        next => cases hgo
      next => cases hgo
end
section
/-! What a method does from a place on: the walk's judgement, and its rows, an instruction each. -/
def rO (SC : List Value) : re_K := (fun _ _ _ => none, fun _ _ _ => none, SC, fun _ _ _ => none)
/-- from pc on, the method y ends with Q (how: 0 void, 1 int, 2 long, 3 a reference, 4 + e thrown; the answer; the heap), its calls at most d deep, its cells those that the heap grows by and s, its slots at most 11 a cell and 2 s -/
def wp (SC : List Value) (y d s pc : Nat) (lv : List (Nat × Value)) (st : List Value) (h : re_H) (Q : Nat → Value → re_H → Prop) : Prop :=
  ∃ (n : Nat) (r : re_Res), re_go rG (rO SC) n y pc lv st h = some r ∧ (h.1 ≤ r.2.2.1.1 ∧ h.1 + r.2.2.2.1 ≤ r.2.2.1.1 + s ∧ r.2.2.2.2.1 ≤ 11 * r.2.2.2.1 + 2 * s ∧ r.2.2.2.2.2.1 ≤ d + 6 ∧ r.2.2.2.2.2.2 ≤ 100 * d + 200) ∧ Q r.1 r.2.1 r.2.2.1
/-- the instruction at a place -/
abbrev ft (y pc : Nat) (ins : Instr) : Prop := re_tw rG y pc = none ∧ re_ins rG y pc = some ins
/-- null, or a reference -/
def re_R (v : Value) : Prop := v = .null ∨ ∃ a, v = .ref a
abbrev i32 (n : Nat) : Int32 := Int32.ofNat n
section WP
variable {SC : List Value} {y d s pc : Nat} {lv : List (Nat × Value)} {st : List Value} {h : re_H} {Q Q' : Nat → Value → re_H → Prop} {ins : Instr}
theorem wp_mono (k : wp SC y d s pc lv st h Q) (hq : ∀ k v h', Q k v h' → Q' k v h') : wp SC y d s pc lv st h Q' := by
  obtain ⟨n, r, h1, h2, h3⟩ := k
  exact ⟨n, r, h1, h2, hq _ _ _ h3⟩
theorem wp_up {d' s' : Nat} (hd : d ≤ d') (hs : s ≤ s') (k : wp SC y d s pc lv st h Q) : wp SC y d' s' pc lv st h Q := by
  obtain ⟨n, r, h1, ⟨h2, h3, h4, h5, h7⟩, h6⟩ := k
  exact ⟨n, r, h1, ⟨h2, by omega, by omega, by omega, by omega⟩, h6⟩
theorem wp_weak {lv' : List (Nat × Value)} (hs : re_sb lv' lv) (k : wp SC y d s pc lv' st h Q) : wp SC y d s pc lv st h Q := by
  obtain ⟨n, r, h1, h2⟩ := k
  exact ⟨n, r, re_more n n y pc _ _ st h r (Nat.le_refl _) hs h1, h2⟩
theorem re_sb_nil (lv : List (Nat × Value)) : re_sb [] lv := fun i v z => by cases z
theorem re_sb_at {i : Nat} {v : Value} {l lv : List (Nat × Value)} (h : re_lk lv i = some v) (hs : re_sb l lv) : re_sb ((i, v) :: l) lv := by
  intro j u hj
  rw [re_lk_cons] at hj
  split at hj
  next e => subst e; rw [h]; exact hj
  next => exact hs j u hj
theorem wp_step1 {pc' : Nat} {lv' : List (Nat × Value)} {st' : List Value} {h' : re_H} (k : wp SC y d s pc' lv' st' h' Q) (hh : h'.1 = h.1) (e : ∀ n, re_go rG (rO SC) (n + 1) y pc lv st h = re_go rG (rO SC) n y pc' lv' st' h') : wp SC y d s pc lv st h Q := by
  obtain ⟨n, r, h1, h2, h3⟩ := k
  refine ⟨n + 1, r, by rw [e, h1], ?_, h3⟩
  rw [← hh]
  exact h2
theorem wp_pure {pc' : Nat} {lv' : List (Nat × Value)} {st' : List Value} (hf : ft y pc ins) (hp : re_pure (fun _ _ _ => none) (re_nl rG y) pc lv st ins = some (pc', lv', st')) (k : wp SC y d s pc' lv' st' h Q) : wp SC y d s pc lv st h Q :=
  wp_step1 k rfl (fun n => by rw [re_go.eq_def]; simp only [hf.1, hf.2, show re_pure (rO SC).1 (re_nl rG y) pc lv st ins = some (pc', lv', st') from hp])
/-- pure instructions, one behind another -/
def nb_run (y : Nat) : Nat → Nat → List (Nat × Value) → List Value → Option (Nat × List (Nat × Value) × List Value)
  | 0, pc, lv, st => some (pc, lv, st)
  | k + 1, pc, lv, st => match re_tw rG y pc with
    | some _ => none
    | none => match re_ins rG y pc with
      | none => none
      | some ins => match re_pure (fun _ _ _ => none) (re_nl rG y) pc lv st ins with
        | none => none
        | some q => nb_run y k q.1 q.2.1 q.2.2
theorem wp_run (k : Nat) {pc' : Nat} {lv' : List (Nat × Value)} {st' : List Value} (hp : nb_run y k pc lv st = some (pc', lv', st')) (K : wp SC y d s pc' lv' st' h Q) : wp SC y d s pc lv st h Q := by
  induction k generalizing pc lv st with
  | zero => cases hp; exact K
  | succ k ih =>
    unfold nb_run at hp
    split at hp
    next => cases hp
    next h1 =>
      split at hp
      next => cases hp
      next ins h2 =>
        split at hp
        next => cases hp
        next q h3 => exact wp_pure ⟨h1, h2⟩ (pc' := q.1) (lv' := q.2.1) (st' := q.2.2) h3 (ih hp)
theorem wp_gf {idx ci k a : Nat} {ty : FieldType} {fin : Nat} {vs : List Value} {v : Value} (hf : ft y pc (.getfield idx)) (hl : re_fl rG y idx = some (ci, k, ty, fin)) (hg : re_hg h a = some (ci, vs)) (hv : vs[k]? = some v) (K : wp SC y d s (pc + 3) lv (v :: st) h Q) : wp SC y d s pc lv (.ref a :: st) h Q :=
  wp_step1 K rfl (fun n => by rw [re_go.eq_def]; simp only [hf.1, hf.2, re_pure, re_hp, hl, hg, hv, if_true])
/-- what a call comes back to -/
def wp_ret (SC : List Value) (y d s pc : Nat) (lv : List (Nat × Value)) (st : List Value) (Q : Nat → Value → re_H → Prop) : Nat → Value → re_H → Prop :=
  fun k v h' => if k < 4 then wp SC y d s pc lv (if k = 0 then st else v :: st) h' Q else Q k v h'
theorem wp_pf {idx ci k a : Nat} {ty : FieldType} {fin : Nat} {vs : List Value} {v : Value} (hf : ft y pc (.putfield idx)) (hl : re_fl rG y idx = some (ci, k, ty, fin)) (hi : fin = 0 ∨ (fin = 1 ∧ re_isI rG y = true)) (hg : re_hg h a = some (ci, vs)) (hk : k < vs.length) (hv : re_fit ty v = true) (K : wp SC y d s (pc + 3) lv st (re_hw h a (ci, vs.set k v)) Q) : wp SC y d s pc lv (v :: .ref a :: st) h Q :=
  wp_step1 K rfl (fun n => by rw [re_go.eq_def]; simp only [hf.1, hf.2, re_pure, re_hp, hl, hg, hv, hk, hi, and_self, if_true])
theorem fit_i (x : Int32) : re_fit .int (.int x) = true := by simp [re_fit, narrow, fits]
theorem fit_l (x : Int64) : re_fit .long (.long x) = true := by simp [re_fit, narrow, fits]
theorem fit_o {nm : String} {v : Value} (hv : re_R v) : re_fit (.object nm) v = true := by rcases hv with rfl | ⟨a, rfl⟩ <;> simp [re_fit, narrow, fits]
theorem fit_a {t : FieldType} {v : Value} (hv : re_R v) : re_fit (.array t) v = true := by rcases hv with rfl | ⟨a, rfl⟩ <;> simp [re_fit, narrow, fits]
theorem i32_in {i n : Nat} (h1 : i < n) (h2 : i < 2147483648) : re_in (i32 i) n = true ∧ (i32 i).toNatClampNeg = i := by
  have e : (i32 i).toInt = (i : Int) := by
    rw [Int32.toInt_ofNat_of_lt h2]
  have e2 : (i32 i).toNatClampNeg = i := by
    show (i32 i).toInt.toNat = i
    rw [e]; rfl
  refine ⟨?_, e2⟩
  unfold re_in
  rw [e2]
  have h3 : ¬ i32 i < 0 := by
    rw [Int32.lt_iff_toInt_lt, e]
    show ¬ (i : Int) < 0
    omega
  simp [h3, h1]
theorem wp_ial {a i : Nat} {x : Int32} {t : Nat} {vs : List Value} {v : Value} (hf : ft y pc .iaload) (hg : re_hg h a = some (t, vs)) (ht : t = 100) (hx : x = i32 i) (hi : i < 2147483648) (hv : vs[i]? = some v) (K : wp SC y d s (pc + 1) lv (v :: st) h Q) : wp SC y d s pc lv (.int x :: .ref a :: st) h Q := by
  have hl : i < vs.length := (List.getElem?_eq_some_iff.mp hv).1
  obtain ⟨e1, e2⟩ := i32_in hl hi
  subst hx
  subst ht
  exact wp_step1 K rfl (fun n => by rw [re_go.eq_def]; simp only [hf.1, hf.2, re_pure, re_hp, hg, e1, e2, hv, and_self, if_true])
theorem wp_lal {a i : Nat} {x : Int32} {t : Nat} {vs : List Value} {v : Value} (hf : ft y pc .laload) (hg : re_hg h a = some (t, vs)) (ht : t = 101) (hx : x = i32 i) (hi : i < 2147483648) (hv : vs[i]? = some v) (K : wp SC y d s (pc + 1) lv (v :: st) h Q) : wp SC y d s pc lv (.int x :: .ref a :: st) h Q := by
  have hl : i < vs.length := (List.getElem?_eq_some_iff.mp hv).1
  obtain ⟨e1, e2⟩ := i32_in hl hi
  subst hx
  subst ht
  exact wp_step1 K rfl (fun n => by rw [re_go.eq_def]; simp only [hf.1, hf.2, re_pure, re_hp, hg, e1, e2, hv, and_self, if_true])
theorem wp_bal {a i : Nat} {x : Int32} {t : Nat} {vs : List Value} {v : Value} (hf : ft y pc .baload) (hg : re_hg h a = some (t, vs)) (ht : t = 102) (hx : x = i32 i) (hi : i < 2147483648) (hv : vs[i]? = some v) (K : wp SC y d s (pc + 1) lv (v :: st) h Q) : wp SC y d s pc lv (.int x :: .ref a :: st) h Q := by
  have hl : i < vs.length := (List.getElem?_eq_some_iff.mp hv).1
  obtain ⟨e1, e2⟩ := i32_in hl hi
  subst hx
  subst ht
  exact wp_step1 K rfl (fun n => by rw [re_go.eq_def]; simp only [hf.1, hf.2, re_pure, re_hp, hg, e1, e2, hv, and_self, if_true])
theorem wp_aal {a i : Nat} {x : Int32} {t : Nat} {vs : List Value} {v : Value} (hf : ft y pc .aaload) (hg : re_hg h a = some (t, vs)) (ht : 103 ≤ t ∧ t < 100 + re_nE rG) (hx : x = i32 i) (hi : i < 2147483648) (hv : vs[i]? = some v) (K : wp SC y d s (pc + 1) lv (v :: st) h Q) : wp SC y d s pc lv (.int x :: .ref a :: st) h Q := by
  have hl : i < vs.length := (List.getElem?_eq_some_iff.mp hv).1
  obtain ⟨e1, e2⟩ := i32_in hl hi
  subst hx
  exact wp_step1 K rfl (fun n => by rw [re_go.eq_def]; simp only [hf.1, hf.2, re_pure, re_hp, hg, ht, e1, e2, hv, and_self, if_true])
theorem wp_ias {a i : Nat} {x : Int32} {t : Nat} {vs : List Value} {z : Int32} (hf : ft y pc .iastore) (hg : re_hg h a = some (t, vs)) (ht : t = 100) (hx : x = i32 i) (hi : i < 2147483648) (hl : i < vs.length) (K : wp SC y d s (pc + 1) lv st (re_hw h a (t, vs.set i (.int z))) Q) : wp SC y d s pc lv (.int z :: .int x :: .ref a :: st) h Q := by
  obtain ⟨e1, e2⟩ := i32_in hl hi
  subst hx
  subst ht
  exact wp_step1 K rfl (fun n => by rw [re_go.eq_def]; simp only [hf.1, hf.2, re_pure, re_hp, hg, e1, e2, and_self, if_true])
theorem wp_las {a i : Nat} {x : Int32} {t : Nat} {vs : List Value} {z : Int64} (hf : ft y pc .lastore) (hg : re_hg h a = some (t, vs)) (ht : t = 101) (hx : x = i32 i) (hi : i < 2147483648) (hl : i < vs.length) (K : wp SC y d s (pc + 1) lv st (re_hw h a (t, vs.set i (.long z))) Q) : wp SC y d s pc lv (.long z :: .int x :: .ref a :: st) h Q := by
  obtain ⟨e1, e2⟩ := i32_in hl hi
  subst hx
  subst ht
  exact wp_step1 K rfl (fun n => by rw [re_go.eq_def]; simp only [hf.1, hf.2, re_pure, re_hp, hg, e1, e2, and_self, if_true])
theorem wp_bas {a i : Nat} {x : Int32} {t : Nat} {vs : List Value} {z : Int32} (hf : ft y pc .bastore) (hg : re_hg h a = some (t, vs)) (ht : t = 102) (hx : x = i32 i) (hi : i < 2147483648) (hl : i < vs.length) (K : wp SC y d s (pc + 1) lv st (re_hw h a (t, vs.set i (.int (vp_nar .boolean z)))) Q) : wp SC y d s pc lv (.int z :: .int x :: .ref a :: st) h Q := by
  obtain ⟨e1, e2⟩ := i32_in hl hi
  subst hx
  subst ht
  exact wp_step1 K rfl (fun n => by rw [re_go.eq_def]; simp only [hf.1, hf.2, re_pure, re_hp, hg, e1, e2, and_self, if_true])
theorem wp_aas {a i : Nat} {x : Int32} {t : Nat} {vs : List Value} {v : Value} (hf : ft y pc .aastore) (hg : re_hg h a = some (t, vs)) (ht : 103 ≤ t ∧ t < 100 + re_nE rG) (hx : x = i32 i) (hi : i < 2147483648) (hl : i < vs.length) (hv : v = .null ∨ ∃ (b tv : Nat) (ws : List Value), v = .ref b ∧ re_hg h b = some (tv, ws) ∧ re_ec rG (t - 100) tv = true) (K : wp SC y d s (pc + 1) lv st (re_hw h a (t, vs.set i v)) Q) : wp SC y d s pc lv (v :: .int x :: .ref a :: st) h Q := by
  obtain ⟨e1, e2⟩ := i32_in hl hi
  subst hx
  rcases hv with rfl | ⟨b, tv, ws, rfl, h1, h2⟩
  · exact wp_step1 K rfl (fun n => by rw [re_go.eq_def]; simp only [hf.1, hf.2, re_pure, re_hp, hg, ht, e1, e2, and_self, if_true])
  · exact wp_step1 K rfl (fun n => by rw [re_go.eq_def]; simp only [hf.1, hf.2, re_pure, re_hp, hg, ht, h1, h2, e1, e2, and_self, if_true])
theorem wp_alen {a t : Nat} {vs : List Value} (hf : ft y pc .arraylength) (hg : re_hg h a = some (t, vs)) (ht : 100 ≤ t ∧ t < 100 + re_nE rG) (K : wp SC y d s (pc + 1) lv (.int (i32 vs.length) :: st) h Q) : wp SC y d s pc lv (.ref a :: st) h Q :=
  wp_step1 K rfl (fun n => by rw [re_go.eq_def]; simp only [hf.1, hf.2, re_pure, re_hp, hg, ht, and_self, if_true])
/-- something is made -/
theorem wp_mk {s' pc' : Nat} {st' : List Value} {c : re_C} (hf : ft y pc ins) (h1 : re_pure (rO SC).1 (re_nl rG y) pc lv st ins = none) (h2 : re_hp (re_nE rG) (re_fl rG y) (re_ec rG) (re_isI rG y) pc st h ins = none) (h3 : re_ret (re_rt rG y) ins st = none) (h4 : re_mk (re_nw rG y) (re_an rG y) pc st h.1 ins = some (pc', st', c)) (hs : c.2.length + 2 * s' ≤ 11 + 2 * s) (hs' : s' ≤ s) (K : wp SC y d s' pc' lv st' (re_hq h c) Q) : wp SC y d s pc lv st h Q := by
  obtain ⟨n, r, k1, ⟨k2, k3, k4, k5, k6⟩, k7⟩ := K
  have k2 : h.1 + 1 ≤ r.2.2.1.1 := k2
  have k3 : h.1 + 1 + r.2.2.2.1 ≤ r.2.2.1.1 + s' := k3
  refine ⟨n + 1, re_add 1 c.2.length r, ?_, ⟨?_, ?_, ?_, k5, k6⟩, k7⟩
  · rw [re_go.eq_def]
    simp only [hf.1, hf.2, h1, h2, h3, h4, k1, Option.map_some]
  · show h.1 ≤ r.2.2.1.1
    omega
  · show h.1 + (1 + r.2.2.2.1) ≤ r.2.2.1.1 + s
    omega
  · show c.2.length + r.2.2.2.2.1 ≤ 11 * (1 + r.2.2.2.1) + 2 * s
    omega
theorem wp_new {idx ci : Nat} {vs : List Value} (hf : ft y pc (.new idx)) (hn : re_nw rG y idx = some (ci, vs)) (hc : ci < 100) (hs : vs.length ≤ 11) (K : wp SC y d s (pc + 3) lv (.ref h.1 :: st) (re_hq h (ci, vs)) Q) : wp SC y d s pc lv st h Q :=
  wp_mk (s' := s) (pc' := pc + 3) (st' := .ref h.1 :: st) (c := (ci, vs)) hf rfl rfl rfl (by simp only [re_mk, hn, hc, if_true]) (by show vs.length + _ ≤ _; omega) (Nat.le_refl _) K
theorem na_ok {n : Nat} (h2 : n * 8 ≤ 536870912) : ¬ i32 n < 0 ∧ (i32 n).toNatClampNeg = n := by
  have h3 := i32_in (i := n) (n := n + 1) (by omega) (by omega)
  have h1 := h3.1
  unfold re_in at h1
  simp only [Bool.and_eq_true, Bool.not_eq_true', decide_eq_false_iff_not] at h1
  exact ⟨h1.1, h3.2⟩
theorem wp_na {s' n j : Nat} {x : Int32} {at9 : ArrayType} {z : Value} (hf : ft y pc (.newarray at9)) (hx : x = i32 n) (hn : n * 8 ≤ 536870912) (ha : (at9 = .int ∧ j = 100 ∧ z = .int 0) ∨ (at9 = .long ∧ j = 101 ∧ z = .long 0) ∨ (at9 = .boolean ∧ j = 102 ∧ z = .int 0)) (hs : n + 2 * s' ≤ 11 + 2 * s) (hs' : s' ≤ s) (K : wp SC y d s' (pc + 2) lv (.ref h.1 :: st) (re_hq h (j, List.replicate n z)) Q) : wp SC y d s pc lv (.int x :: st) h Q := by
  subst hx
  obtain ⟨e1, e2⟩ := na_ok hn
  have e3 : n * 4 ≤ 536870912 := by omega
  rcases ha with ⟨rfl, rfl, rfl⟩ | ⟨rfl, rfl, rfl⟩ | ⟨rfl, rfl, rfl⟩
  · exact wp_mk (s' := s') (pc' := pc + 2) (st' := .ref h.1 :: st) (c := (100, List.replicate n (.int 0))) hf rfl rfl rfl (by simp only [re_mk, e1, e2, e3, not_false_eq_true, and_self, if_true]) (by show (List.replicate n _).length + _ ≤ _; rw [List.length_replicate]; omega) hs' K
  · exact wp_mk (s' := s') (pc' := pc + 2) (st' := .ref h.1 :: st) (c := (101, List.replicate n (.long 0))) hf rfl rfl rfl (by simp only [re_mk, e1, e2, hn, not_false_eq_true, and_self, if_true]) (by show (List.replicate n _).length + _ ≤ _; rw [List.length_replicate]; omega) hs' K
  · exact wp_mk (s' := s') (pc' := pc + 2) (st' := .ref h.1 :: st) (c := (102, List.replicate n (.int 0))) hf rfl rfl rfl (by simp only [re_mk, e1, e2, e3, not_false_eq_true, and_self, if_true]) (by show (List.replicate n _).length + _ ≤ _; rw [List.length_replicate]; omega) hs' K
theorem wp_ana {s' n j idx : Nat} {x : Int32} (hf : ft y pc (.anewarray idx)) (hj : re_an rG y idx = some j) (hx : x = i32 n) (hn : n * 8 ≤ 536870912) (hs : n + 2 * s' ≤ 11 + 2 * s) (hs' : s' ≤ s) (K : wp SC y d s' (pc + 3) lv (.ref h.1 :: st) (re_hq h (100 + j, List.replicate n .null)) Q) : wp SC y d s pc lv (.int x :: st) h Q := by
  subst hx
  obtain ⟨e1, e2⟩ := na_ok hn
  have e3 : n * 4 ≤ 536870912 := by omega
  exact wp_mk (s' := s') (pc' := pc + 3) (st' := .ref h.1 :: st) (c := (100 + j, List.replicate n .null)) hf rfl rfl rfl (by simp only [re_mk, hj, e1, e2, e3, not_false_eq_true, and_self, if_true]) (by show (List.replicate n _).length + _ ≤ _; rw [List.length_replicate]; omega) hs' K
/-- a constant of the pool; the script; the same reference; Math.min -/
theorem wp_cst {pc' : Nat} {v : Value} (hf : ft y pc ins) (h1 : re_pure (rO SC).1 (re_nl rG y) pc lv st ins = none) (h2 : re_hp (re_nE rG) (re_fl rG y) (re_ec rG) (re_isI rG y) pc st h ins = none) (h3 : re_ret (re_rt rG y) ins st = none) (h4 : re_mk (re_nw rG y) (re_an rG y) pc st h.1 ins = none) (h5 : re_cst (re_ks rG y) pc ins = some (pc', v)) (K : wp SC y d s pc' lv (v :: st) h Q) : wp SC y d s pc lv st h Q :=
  wp_step1 K rfl (fun n => by rw [re_go.eq_def]; simp only [hf.1, hf.2, h1, h2, h3, h4, h5])
theorem wp_acne {off : Int} {t : Nat} {u v : Value} (hf : ft y pc (.if_acmp .ne off)) (ht : re_jmp pc off = some t) (hu : re_R u) (hv : re_R v) (K1 : ¬ u = v → wp SC y d s t lv st h Q) (K2 : u = v → wp SC y d s (pc + 3) lv st h Q) : wp SC y d s pc lv (v :: u :: st) h Q := by
  have key : ∀ (b : Bool), re_seq u v = some b → (b = true → u = v) → (b = false → ¬ u = v) → wp SC y d s pc lv (v :: u :: st) h Q := by
    intro b e h1 h2
    have e6 : re_acm pc (v :: u :: st) (.if_acmp .ne off) = some (bif !b then t else pc + 3, st) := by simp only [re_acm, ht, e]
    cases b with
    | true => exact wp_step1 (K2 (h1 rfl)) rfl (fun n => by rw [re_go.eq_def]; simp only [hf.1, hf.2, re_pure, re_hp, re_ret, re_mk, re_cst, e6]; rfl)
    | false => exact wp_step1 (K1 (h2 rfl)) rfl (fun n => by rw [re_go.eq_def]; simp only [hf.1, hf.2, re_pure, re_hp, re_ret, re_mk, re_cst, e6]; rfl)
  rcases hu with rfl | ⟨i, rfl⟩ <;> rcases hv with rfl | ⟨j, rfl⟩
  · exact key true rfl (fun _ => rfl) (fun z => by cases z)
  · exact key false rfl (fun z => by cases z) (fun _ z => by cases z)
  · exact key false rfl (fun z => by cases z) (fun _ z => by cases z)
  · exact key (Nat.beq i j) rfl (fun z => by rw [Nat.eq_of_beq_eq_true z]) (fun z w => by cases w; rw [Nat.beq_refl] at z; cases z)
theorem wp_sln (hf : ft y pc .arraylength) (K : wp SC y d s (pc + 1) lv (.int (i32 SC.length) :: st) h Q) : wp SC y d s pc lv (.retAddr 2 :: st) h Q :=
  wp_step1 K rfl (fun n => by rw [re_go.eq_def]; simp only [hf.1, hf.2, re_pure, re_hp, re_ret, re_mk, re_cst, re_acm, re_ora, rO, re_scr])
theorem wp_sld {i : Nat} {x : Int32} {v : Value} (hf : ft y pc .iaload) (hx : x = i32 i) (hi : i < 2147483648) (hv : SC[i]? = some v) (K : wp SC y d s (pc + 1) lv (v :: st) h Q) : wp SC y d s pc lv (.int x :: .retAddr 2 :: st) h Q := by
  have hl : i < SC.length := (List.getElem?_eq_some_iff.mp hv).1
  obtain ⟨e1, e2⟩ := i32_in hl hi
  subst hx
  exact wp_step1 K rfl (fun n => by rw [re_go.eq_def]; simp only [hf.1, hf.2, re_pure, re_hp, re_ret, re_mk, re_cst, re_acm, re_ora, rO, re_scr, e1, e2, hv, if_true])
theorem wp_min {idx z : Nat} {a b : Int64} (hf : ft y pc (.invokestatic idx)) (hj : re_jd rG y idx = some (1, z)) (hc : re_cat st ≤ 8) (K : wp SC y d s (pc + 3) lv (.long (if b < a then b else a) :: st) h Q) : wp SC y d s pc lv (.long b :: .long a :: st) h Q := by
  obtain ⟨n, r, k1, ⟨k2, k3, k4, k5, k6⟩, k7⟩ := K
  refine ⟨n + 1, re_mx 1 23 r, ?_, ⟨k2, k3, k4, ?_, ?_⟩, k7⟩
  · rw [re_go.eq_def]
    simp only [hf.1, hf.2, re_pure, re_hp, re_ret, re_mk, re_cst, re_acm, re_ora, rO, re_scr, re_jdk, hj, hc, if_true]
    show Option.map (re_mx 1 23) (re_go rG (rO SC) n y (pc + 3) lv (.long (if b < a then b else a) :: st) h) = _
    rw [k1]
    rfl
  · show max 1 r.2.2.2.2.2.1 ≤ d + 6
    omega
  · show max 23 r.2.2.2.2.2.2 ≤ 100 * d + 200
    omega
/-- the ends -/
theorem wp_end {k : Nat} {v : Value} (hf : ft y pc ins) (h1 : re_pure (rO SC).1 (re_nl rG y) pc lv st ins = none) (h2 : re_hp (re_nE rG) (re_fl rG y) (re_ec rG) (re_isI rG y) pc st h ins = none) (h3 : re_ret (re_rt rG y) ins st = some (k, v)) (K : Q k v h) : wp SC y d s pc lv st h Q :=
  ⟨1, (k, v, h, 0, 0, 0, 0), by rw [re_go.eq_def]; simp only [hf.1, hf.2, h1, h2, h3], ⟨Nat.le_refl _, Nat.le_add_right _ _, Nat.zero_le _, Nat.zero_le _, Nat.zero_le _⟩, K⟩
theorem wp_retv (hf : ft y pc .return_) (hr : re_rt rG y = none) (K : Q 0 .null h) : wp SC y d s pc lv [] h Q :=
  wp_end hf rfl rfl (by simp only [re_ret, hr]) K
theorem wp_reti {x : Int32} (hf : ft y pc .ireturn) (hr : re_rt rG y = some .int) (K : Q 1 (.int x) h) : wp SC y d s pc lv [.int x] h Q :=
  wp_end hf rfl rfl (by simp [re_ret, hr, narrow]) K
theorem wp_retz {x : Int32} (hf : ft y pc .ireturn) (hr : re_rt rG y = some .boolean) (hx : x = 0 ∨ x = 1) (K : Q 1 (.int x) h) : wp SC y d s pc lv [.int x] h Q :=
  wp_end hf rfl rfl (by rcases hx with rfl | rfl <;> simp [re_ret, hr, narrow]) K
theorem wp_retl {x : Int64} (hf : ft y pc .lreturn) (hr : re_rt rG y = some .long) (K : Q 2 (.long x) h) : wp SC y d s pc lv [.long x] h Q :=
  wp_end hf rfl rfl (by simp only [re_ret, hr]) K
theorem wp_reta {v : Value} {nm : String} (hf : ft y pc .areturn) (hr : re_rt rG y = some (.object nm)) (hv : re_R v) (K : Q 3 v h) : wp SC y d s pc lv [v] h Q :=
  wp_end hf rfl rfl (by rcases hv with rfl | ⟨a, rfl⟩ <;> simp only [re_ret, hr]) K
theorem wp_throw {x : Nat} (hf : re_tw rG y pc = some x) (hs : 0 < s) (hc : re_cat st ≤ 100) (K : Q (4 + x) .null h) : wp SC y d s pc lv st h Q :=
  ⟨1, (4 + x, .null, h, 1, 6, 6, re_cat st + 82), by rw [re_go.eq_def]; simp only [hf], ⟨Nat.le_refl _, by show h.1 + 1 ≤ h.1 + s; omega, by show 6 ≤ 11 * 1 + 2 * s; omega, by show 6 ≤ d + 6; omega, by show re_cat st + 82 ≤ _; omega⟩, K⟩
/-- what may be null -/
theorem wp_alR {k : Nat} {pc' : Nat} {v : Value} (hf : ft y pc ins) (hi : (∃ i, ins = .aload i ∧ i = k ∧ pc' = pc + 2) ∨ (∃ i, ins = .aload_n i ∧ (i : Nat) = k ∧ pc' = pc + 1)) (hl : re_lk lv k = some v) (hv : re_R v) (K : wp SC y d s pc' lv (v :: st) h Q) : wp SC y d s pc lv st h Q := by
  rcases hi with ⟨i, rfl, rfl, rfl⟩ | ⟨i, rfl, rfl, rfl⟩ <;> rcases hv with rfl | ⟨a, rfl⟩ <;> exact wp_pure hf (by simp only [re_pure, hl]) K
theorem wp_asR {k : Nat} {pc' : Nat} {v : Value} (hf : ft y pc ins) (hi : (∃ i, ins = .astore i ∧ i = k ∧ pc' = pc + 2) ∨ (∃ i, ins = .astore_n i ∧ (i : Nat) = k ∧ pc' = pc + 1)) (hn : k < re_nl rG y) (hv : re_R v) (K : wp SC y d s pc' (re_s1 lv k v) st h Q) : wp SC y d s pc lv (v :: st) h Q := by
  rcases hi with ⟨i, rfl, rfl, rfl⟩ | ⟨i, rfl, rfl, rfl⟩ <;> rcases hv with rfl | ⟨a, rfl⟩ <;> exact wp_pure hf (by simp only [re_pure, hn, if_true]) K
theorem wp_ifn {off : Int} {t : Nat} {v : Value} (hf : ft y pc (.ifnull off)) (ht : re_jmp pc off = some t) (hv : re_R v) (K1 : v = .null → wp SC y d s t lv st h Q) (K2 : ∀ a, v = .ref a → wp SC y d s (pc + 3) lv st h Q) : wp SC y d s pc lv (v :: st) h Q := by
  rcases hv with rfl | ⟨a, rfl⟩
  · exact wp_pure hf (by simp only [re_pure, ht]) (K1 rfl)
  · exact wp_pure hf (by simp only [re_pure, ht]) (K2 a rfl)
theorem wp_ifnn {off : Int} {t : Nat} {v : Value} (hf : ft y pc (.ifnonnull off)) (ht : re_jmp pc off = some t) (hv : re_R v) (K1 : ∀ a, v = .ref a → wp SC y d s t lv st h Q) (K2 : v = .null → wp SC y d s (pc + 3) lv st h Q) : wp SC y d s pc lv (v :: st) h Q := by
  rcases hv with rfl | ⟨a, rfl⟩
  · exact wp_pure hf (by simp only [re_pure, ht]) (K2 rfl)
  · exact wp_pure hf (by simp only [re_pure, ht]) (K1 a rfl)
/-- branches -/
theorem wp_cmp {cd : Jvm.ClassFile.Cond} {off : Int} {t : Nat} {x z : Int32} (hf : ft y pc (.if_icmp cd off)) (ht : re_jmp pc off = some t) (K1 : re_icond cd x z = true → wp SC y d s t lv st h Q) (K2 : re_icond cd x z = false → wp SC y d s (pc + 3) lv st h Q) : wp SC y d s pc lv (.int z :: .int x :: st) h Q := by
  cases hb : re_icond cd x z with
  | true => exact wp_pure hf (by simp only [re_pure, ht, hb]; rfl) (K1 hb)
  | false => exact wp_pure hf (by simp only [re_pure, ht, hb]; rfl) (K2 hb)
theorem wp_if {cd : Jvm.ClassFile.Cond} {off : Int} {t : Nat} {x : Int32} (hf : ft y pc (.ifCond cd off)) (ht : re_jmp pc off = some t) (K1 : re_icond cd x 0 = true → wp SC y d s t lv st h Q) (K2 : re_icond cd x 0 = false → wp SC y d s (pc + 3) lv st h Q) : wp SC y d s pc lv (.int x :: st) h Q := by
  cases hb : re_icond cd x 0 with
  | true => exact wp_pure hf (by simp only [re_pure, ht, hb]; rfl) (K1 hb)
  | false => exact wp_pure hf (by simp only [re_pure, ht, hb]; rfl) (K2 hb)
theorem wp_tsd {df lo hi : Int} {offs : Array Int} {t : Nat} {x : Int32} (hf : ft y pc (.tableswitch df lo hi offs)) (ht : re_jmp pc df = some t) (hx : x.toInt < lo ∨ hi < x.toInt) (K : wp SC y d s t lv st h Q) : wp SC y d s pc lv (.int x :: st) h Q :=
  wp_pure hf (by simp only [re_pure, hx, if_true, ht]) K
/-- calls -/
theorem wp_call {s1 s2 d' y' : Nat} {args rest : List Value} (hd : d = d' + 1) (hs : s1 + s2 ≤ s) (hml : re_nl rG y' ≤ 80) (hh : re_hh rG y = [])
    (e : ∀ (n : Nat) (a : re_Res), re_go rG (rO SC) n y' 0 (lv_args 0 args) [] h = some a → re_go rG (rO SC) (n + 1) y pc lv st h = (if a.1 < 4 then (re_go rG (rO SC) n y (pc + 3) lv (re_vl a rest) a.2.2.1).map (re_aft (re_nl rG y') a) else some (re_aft (re_nl rG y') a (a.1, a.2.1, a.2.2.1, 0, 0, 0, 0))))
    (K : wp SC y' d' s1 0 (lv_args 0 args) [] h (wp_ret SC y d s2 (pc + 3) lv rest Q)) : wp SC y d s pc lv st h Q := by
  obtain ⟨n, a, k1, ⟨k2, k3, k4, k5, k6⟩, k7⟩ := K
  subst hd
  unfold wp_ret at k7
  split at k7
  next h4 =>
    obtain ⟨m, r, j1, ⟨j2, j3, j4, j5, j6⟩, j7⟩ := k7
    have k1' := re_more n (max n m) y' 0 _ _ [] h a (Nat.le_max_left _ _) (fun i v z => z) k1
    have j1' := re_more m (max n m) y (pc + 3) _ lv _ _ r (Nat.le_max_right _ _) (fun i v z => z) j1
    refine ⟨max n m + 1, re_aft (re_nl rG y') a r, ?_, ⟨?_, ?_, ?_, ?_, ?_⟩, j7⟩
    · rw [e _ a k1', if_pos h4]
      show Option.map _ (re_go rG (rO SC) (max n m) y (pc + 3) lv (re_vl a rest) a.2.2.1) = _
      unfold re_vl
      rw [j1']
      rfl
    · show h.1 ≤ r.2.2.1.1
      omega
    · show h.1 + (a.2.2.2.1 + r.2.2.2.1) ≤ r.2.2.1.1 + s
      omega
    · show a.2.2.2.2.1 + r.2.2.2.2.1 ≤ 11 * (a.2.2.2.1 + r.2.2.2.1) + 2 * s
      omega
    · show max (a.2.2.2.2.2.1 + 1) r.2.2.2.2.2.1 ≤ d' + 1 + 6
      omega
    · show max (8 + (re_nl rG y' + 11) + a.2.2.2.2.2.2) r.2.2.2.2.2.2 ≤ 100 * (d' + 1) + 200
      omega
  next h4 =>
    refine ⟨n + 1, re_aft (re_nl rG y') a (a.1, a.2.1, a.2.2.1, 0, 0, 0, 0), ?_, ⟨?_, ?_, ?_, ?_, ?_⟩, k7⟩
    · rw [e _ a k1, if_neg h4]
    · exact k2
    · show h.1 + (a.2.2.2.1 + 0) ≤ a.2.2.1.1 + s
      omega
    · show a.2.2.2.2.1 + 0 ≤ 11 * (a.2.2.2.1 + 0) + 2 * s
      omega
    · show max (a.2.2.2.2.2.1 + 1) 0 ≤ d' + 1 + 6
      omega
    · show max (8 + (re_nl rG y' + 11) + a.2.2.2.2.2.2) 0 ≤ 100 * (d' + 1) + 200
      omega
theorem wp_callS {s1 s2 d' y' k idx : Nat} {ar rest : List Value} (hf : ft y pc (.invokestatic idx)) (hc : re_cl rG y idx = some (k, y', ar.length)) (hk : k = 0 ∨ k = 4) (hjd : re_jd rG y idx = none) (hr : re_cat rest ≤ 8) (hn : re_cat ar.reverse ≤ re_nl rG y') (hml : re_nl rG y' ≤ 80) (hh : re_hh rG y = []) (hd : d = d' + 1) (hs : s1 + s2 ≤ s)
    (K : wp SC y' d' s1 0 (lv_args 0 ar.reverse) [] h (wp_ret SC y d s2 (pc + 3) lv rest Q)) : wp SC y d s pc lv (ar ++ rest) h Q := by
  refine wp_call hd hs hml hh (fun n a ha => ?_) K
  have e1 : (ar ++ rest).take ar.length = ar := by simp
  have e2 : (ar ++ rest).drop ar.length = rest := by simp
  rw [re_go.eq_def]
  rcases hk with rfl | rfl <;> simp [hf.1, hf.2, re_pure, re_hp, re_ret, re_mk, re_cst, re_acm, re_ora, rO, re_scr, re_jdk, hjd, re_inv, hc, hr, hn, hh, re_hf] <;> (rw [show re_go rG (fun _ _ _ => none, fun _ _ _ => none, SC, fun _ _ _ => none) n y' 0 (lv_args 0 ar.reverse) [] h = some a from ha])
theorem wp_callV {s1 s2 d' y' k idx i t : Nat} {vs : List Value} {ar rest : List Value} (hf : ft y pc (.invokevirtual idx)) (hc : re_cl rG y idx = some (k, y', ar.length)) (hk : k = 1 ∨ k = 5) (hr : re_cat rest ≤ 8) (hn : re_cat (.ref i :: ar.reverse) ≤ re_nl rG y') (hml : re_nl rG y' ≤ 80) (hh : re_hh rG y = []) (hg : re_hg h i = some (t, vs)) (ht : t = re_ct rG y') (hd : d = d' + 1) (hs : s1 + s2 ≤ s)
    (K : wp SC y' d' s1 0 (lv_args 0 (.ref i :: ar.reverse)) [] h (wp_ret SC y d s2 (pc + 3) lv rest Q)) : wp SC y d s pc lv (ar ++ .ref i :: rest) h Q := by
  refine wp_call hd hs hml hh (fun n a ha => ?_) K
  subst ht
  rw [re_go.eq_def]
  rcases hk with rfl | rfl <;> simp [hf.1, hf.2, re_pure, re_hp, re_ret, re_mk, re_cst, re_acm, re_ora, rO, re_scr, re_jdk, re_inv, hc, hr, hn, hh, hg, re_hf] <;> (rw [show re_go rG (fun _ _ _ => none, fun _ _ _ => none, SC, fun _ _ _ => none) n y' 0 (lv_args 0 (.ref i :: ar.reverse)) [] h = some a from ha])
theorem wp_callI {s1 s2 d' y' k idx i t : Nat} {vs : List Value} {ar rest : List Value} (hf : ft y pc (.invokespecial idx)) (hc : re_cl rG y idx = some (k, y', ar.length)) (hk : k = 2 ∨ k = 6) (hr : re_cat rest ≤ 8) (hn : re_cat (.ref i :: ar.reverse) ≤ re_nl rG y') (hml : re_nl rG y' ≤ 80) (hh : re_hh rG y = []) (hg : re_hg h i = some (t, vs)) (ht : t = re_ct rG y') (hd : d = d' + 1) (hs : s1 + s2 ≤ s)
    (K : wp SC y' d' s1 0 (lv_args 0 (.ref i :: ar.reverse)) [] h (wp_ret SC y d s2 (pc + 3) lv rest Q)) : wp SC y d s pc lv (ar ++ .ref i :: rest) h Q := by
  refine wp_call hd hs hml hh (fun n a ha => ?_) K
  subst ht
  rw [re_go.eq_def]
  rcases hk with rfl | rfl <;> simp [hf.1, hf.2, re_pure, re_hp, re_ret, re_mk, re_cst, re_acm, re_ora, rO, re_scr, re_jdk, re_inv, hc, hr, hn, hh, hg, re_hf] <;> (rw [show re_go rG (fun _ _ _ => none, fun _ _ _ => none, SC, fun _ _ _ => none) n y' 0 (lv_args 0 (.ref i :: ar.reverse)) [] h = some a from ha])
theorem wp_obj {idx i z na : Nat} (hf : ft y pc (.invokespecial idx)) (hc : re_cl rG y idx = some (3, z, na)) (hr : re_cat st ≤ 8) (K : wp SC y d s (pc + 3) lv st h Q) : wp SC y d s pc lv (.ref i :: st) h Q := by
  obtain ⟨n, r, k1, ⟨k2, k3, k4, k5, k6⟩, k7⟩ := K
  refine ⟨n + 1, re_mx 1 20 r, ?_, ⟨k2, k3, k4, ?_, ?_⟩, k7⟩
  · rw [re_go.eq_def]
    simp only [hf.1, hf.2, re_pure, re_hp, re_ret, re_mk, re_cst, re_acm, re_ora, rO, re_scr, re_jdk, re_inv, hc, hr, if_true]
    show Option.map (re_mx 1 20) (re_go rG (rO SC) n y (pc + 3) lv st h) = _
    rw [k1]
    rfl
  · show max 1 r.2.2.2.2.2.1 ≤ d + 6
    omega
  · show max 20 r.2.2.2.2.2.2 ≤ 100 * d + 200
    omega
end WP
end
