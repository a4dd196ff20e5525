section
-- ===== PART A: goes FIRST, ahead of the names: the tables' words, and 'selects' of the private methods out of them =====
/-- a private method of a class that the tables say can be made, by its rows of tables_1 -/
def lw_okq (q : MethodName × Nat) : Prop := (q.1.cls ≠ "java/lang/invoke/MethodHandle" ∧ q.1.cls ≠ "java/lang/invoke/VarHandle") ∧ Cond.instantiable q.1.cls q.2 ∈ tables_1 ∧ Cond.privateMethod q.1 ∈ tables_1 ∧ Cond.instanceMethod q.1 ∈ tables_1
theorem lw_p0 : lw_okq (⟨"TreeChanges$Path", "appendWord", "(I)V"⟩, 2) := ⟨⟨by decide +kernel, by decide +kernel⟩, List.mem_of_getElem? (i := 38) (by decide +kernel), List.mem_of_getElem? (i := 141) (by decide +kernel), List.mem_of_getElem? (i := 142) (by decide +kernel)⟩
theorem lw_p1 : lw_okq (⟨"TreeChanges$Path", "isWellFormed", "()Z"⟩, 2) := ⟨⟨by decide +kernel, by decide +kernel⟩, List.mem_of_getElem? (i := 38) (by decide +kernel), List.mem_of_getElem? (i := 152) (by decide +kernel), List.mem_of_getElem? (i := 153) (by decide +kernel)⟩
theorem lw_p2 : lw_okq (⟨"TreeChanges", "treeOf", "(I)LTreeChanges$Tree;"⟩, 7) := ⟨⟨by decide +kernel, by decide +kernel⟩, List.mem_of_getElem? (i := 17) (by decide +kernel), List.mem_of_getElem? (i := 205) (by decide +kernel), List.mem_of_getElem? (i := 206) (by decide +kernel)⟩
theorem lw_p3 : lw_okq (⟨"java/lang/Throwable", "fillInStackTrace", "(I)Ljava/lang/Throwable;"⟩, 6) := ⟨⟨by decide +kernel, by decide +kernel⟩, List.mem_of_getElem? (i := 248) (by decide +kernel), List.mem_of_getElem? (i := 246) (by decide +kernel), List.mem_of_getElem? (i := 247) (by decide +kernel)⟩
theorem lw_p4 : lw_okq (⟨"TreeChanges$Tree", "findStart", "(LTreeChanges$Path;I)I"⟩, 2) := ⟨⟨by decide +kernel, by decide +kernel⟩, List.mem_of_getElem? (i := 25) (by decide +kernel), List.mem_of_getElem? (i := 286) (by decide +kernel), List.mem_of_getElem? (i := 287) (by decide +kernel)⟩
theorem lw_p5 : lw_okq (⟨"TreeChanges$Tree", "openRow", "(LTreeChanges$Path;)I"⟩, 2) := ⟨⟨by decide +kernel, by decide +kernel⟩, List.mem_of_getElem? (i := 25) (by decide +kernel), List.mem_of_getElem? (i := 350) (by decide +kernel), List.mem_of_getElem? (i := 351) (by decide +kernel)⟩
theorem lw_p6 : lw_okq (⟨"TreeChanges$Tree", "sinkRow", "(I)I"⟩, 2) := ⟨⟨by decide +kernel, by decide +kernel⟩, List.mem_of_getElem? (i := 25) (by decide +kernel), List.mem_of_getElem? (i := 356) (by decide +kernel), List.mem_of_getElem? (i := 357) (by decide +kernel)⟩
theorem lw_p7 : lw_okq (⟨"TreeChanges$Tree", "deepest", "(LTreeChanges$Path;)I"⟩, 2) := ⟨⟨by decide +kernel, by decide +kernel⟩, List.mem_of_getElem? (i := 25) (by decide +kernel), List.mem_of_getElem? (i := 426) (by decide +kernel), List.mem_of_getElem? (i := 427) (by decide +kernel)⟩
theorem lw_p8 : lw_okq (⟨"TreeChanges$Layer", "writeItem", "(ILTreeChanges$Entry;)V"⟩, 3) := ⟨⟨by decide +kernel, by decide +kernel⟩, List.mem_of_getElem? (i := 89) (by decide +kernel), List.mem_of_getElem? (i := 469) (by decide +kernel), List.mem_of_getElem? (i := 470) (by decide +kernel)⟩
theorem lw_p9 : lw_okq (⟨"TreeChanges$Layer", "append", "(I)V"⟩, 3) := ⟨⟨by decide +kernel, by decide +kernel⟩, List.mem_of_getElem? (i := 89) (by decide +kernel), List.mem_of_getElem? (i := 473) (by decide +kernel), List.mem_of_getElem? (i := 474) (by decide +kernel)⟩
theorem lw_p10 : lw_okq (⟨"TreeChanges$Layer", "tellGone", "(LTreeChanges$Tree;ILTreeChanges$Tree;I)V"⟩, 3) := ⟨⟨by decide +kernel, by decide +kernel⟩, List.mem_of_getElem? (i := 89) (by decide +kernel), List.mem_of_getElem? (i := 479) (by decide +kernel), List.mem_of_getElem? (i := 480) (by decide +kernel)⟩
theorem lw_p11 : lw_okq (⟨"TreeChanges$Layer", "tellKept", "(LTreeChanges$Entry;LTreeChanges$Entry;Z)V"⟩, 3) := ⟨⟨by decide +kernel, by decide +kernel⟩, List.mem_of_getElem? (i := 89) (by decide +kernel), List.mem_of_getElem? (i := 490) (by decide +kernel), List.mem_of_getElem? (i := 491) (by decide +kernel)⟩
theorem lw_p12 : lw_okq (⟨"TreeChangesModel", "lay", "(IIII)Z"⟩, 9) := ⟨⟨by decide +kernel, by decide +kernel⟩, List.mem_of_getElem? (i := 568) (by decide +kernel), List.mem_of_getElem? (i := 611) (by decide +kernel), List.mem_of_getElem? (i := 612) (by decide +kernel)⟩
theorem lw_p13 : lw_okq (⟨"TreeChangesModel", "find", "(II)I"⟩, 9) := ⟨⟨by decide +kernel, by decide +kernel⟩, List.mem_of_getElem? (i := 568) (by decide +kernel), List.mem_of_getElem? (i := 628) (by decide +kernel), List.mem_of_getElem? (i := 629) (by decide +kernel)⟩
theorem lw_p14 : lw_okq (⟨"TreeChangesModel", "order", "(II)I"⟩, 9) := ⟨⟨by decide +kernel, by decide +kernel⟩, List.mem_of_getElem? (i := 568) (by decide +kernel), List.mem_of_getElem? (i := 632) (by decide +kernel), List.mem_of_getElem? (i := 633) (by decide +kernel)⟩
theorem lw_p15 : lw_okq (⟨"TreeChangesModel", "mayStand", "(II)Z"⟩, 9) := ⟨⟨by decide +kernel, by decide +kernel⟩, List.mem_of_getElem? (i := 568) (by decide +kernel), List.mem_of_getElem? (i := 636) (by decide +kernel), List.mem_of_getElem? (i := 637) (by decide +kernel)⟩
def lw_privs_1 : List (MethodName × Nat) := [(⟨"TreeChanges$Path", "appendWord", "(I)V"⟩, 2), (⟨"TreeChanges$Path", "isWellFormed", "()Z"⟩, 2), (⟨"TreeChanges", "treeOf", "(I)LTreeChanges$Tree;"⟩, 7), (⟨"java/lang/Throwable", "fillInStackTrace", "(I)Ljava/lang/Throwable;"⟩, 6), (⟨"TreeChanges$Tree", "findStart", "(LTreeChanges$Path;I)I"⟩, 2), (⟨"TreeChanges$Tree", "openRow", "(LTreeChanges$Path;)I"⟩, 2), (⟨"TreeChanges$Tree", "sinkRow", "(I)I"⟩, 2), (⟨"TreeChanges$Tree", "deepest", "(LTreeChanges$Path;)I"⟩, 2), (⟨"TreeChanges$Layer", "writeItem", "(ILTreeChanges$Entry;)V"⟩, 3), (⟨"TreeChanges$Layer", "append", "(I)V"⟩, 3), (⟨"TreeChanges$Layer", "tellGone", "(LTreeChanges$Tree;ILTreeChanges$Tree;I)V"⟩, 3), (⟨"TreeChanges$Layer", "tellKept", "(LTreeChanges$Entry;LTreeChanges$Entry;Z)V"⟩, 3), (⟨"TreeChangesModel", "lay", "(IIII)Z"⟩, 9), (⟨"TreeChangesModel", "find", "(II)I"⟩, 9), (⟨"TreeChangesModel", "order", "(II)I"⟩, 9), (⟨"TreeChangesModel", "mayStand", "(II)Z"⟩, 9)]
theorem lw_r1 : ∀ q ∈ lw_privs_1, lw_okq q := List.forall_mem_cons.mpr ⟨lw_p0, List.forall_mem_cons.mpr ⟨lw_p1, List.forall_mem_cons.mpr ⟨lw_p2, List.forall_mem_cons.mpr ⟨lw_p3, List.forall_mem_cons.mpr ⟨lw_p4, List.forall_mem_cons.mpr ⟨lw_p5, List.forall_mem_cons.mpr ⟨lw_p6, List.forall_mem_cons.mpr ⟨lw_p7, List.forall_mem_cons.mpr ⟨lw_p8, List.forall_mem_cons.mpr ⟨lw_p9, List.forall_mem_cons.mpr ⟨lw_p10, List.forall_mem_cons.mpr ⟨lw_p11, List.forall_mem_cons.mpr ⟨lw_p12, List.forall_mem_cons.mpr ⟨lw_p13, List.forall_mem_cons.mpr ⟨lw_p14, List.forall_mem_cons.mpr ⟨lw_p15, fun _ h => absurd h List.not_mem_nil⟩⟩⟩⟩⟩⟩⟩⟩⟩⟩⟩⟩⟩⟩⟩⟩
theorem lw_p16 : lw_okq (⟨"TreeChangesModel", "shorten", "(I)V"⟩, 9) := ⟨⟨by decide +kernel, by decide +kernel⟩, List.mem_of_getElem? (i := 568) (by decide +kernel), List.mem_of_getElem? (i := 640) (by decide +kernel), List.mem_of_getElem? (i := 641) (by decide +kernel)⟩
theorem lw_p17 : lw_okq (⟨"TreeChangesModel", "copyPath", "(II)V"⟩, 9) := ⟨⟨by decide +kernel, by decide +kernel⟩, List.mem_of_getElem? (i := 568) (by decide +kernel), List.mem_of_getElem? (i := 644) (by decide +kernel), List.mem_of_getElem? (i := 645) (by decide +kernel)⟩
theorem lw_p18 : lw_okq (⟨"TreeChangesModel", "isDirectory", "(II)Z"⟩, 9) := ⟨⟨by decide +kernel, by decide +kernel⟩, List.mem_of_getElem? (i := 568) (by decide +kernel), List.mem_of_getElem? (i := 648) (by decide +kernel), List.mem_of_getElem? (i := 649) (by decide +kernel)⟩
theorem lw_p19 : lw_okq (⟨"TreeChangesModel", "fails", "(ZZZ)Z"⟩, 9) := ⟨⟨by decide +kernel, by decide +kernel⟩, List.mem_of_getElem? (i := 568) (by decide +kernel), List.mem_of_getElem? (i := 652) (by decide +kernel), List.mem_of_getElem? (i := 653) (by decide +kernel)⟩
theorem lw_p20 : lw_okq (⟨"TreeChangesModel", "insert", "(III)I"⟩, 9) := ⟨⟨by decide +kernel, by decide +kernel⟩, List.mem_of_getElem? (i := 568) (by decide +kernel), List.mem_of_getElem? (i := 656) (by decide +kernel), List.mem_of_getElem? (i := 657) (by decide +kernel)⟩
theorem lw_p21 : lw_okq (⟨"TreeChangesModel", "shift", "(II)V"⟩, 9) := ⟨⟨by decide +kernel, by decide +kernel⟩, List.mem_of_getElem? (i := 568) (by decide +kernel), List.mem_of_getElem? (i := 660) (by decide +kernel), List.mem_of_getElem? (i := 661) (by decide +kernel)⟩
theorem lw_p22 : lw_okq (⟨"TreeChangesModel", "append", "(II)V"⟩, 9) := ⟨⟨by decide +kernel, by decide +kernel⟩, List.mem_of_getElem? (i := 568) (by decide +kernel), List.mem_of_getElem? (i := 668) (by decide +kernel), List.mem_of_getElem? (i := 669) (by decide +kernel)⟩
theorem lw_p23 : lw_okq (⟨"TreeChangesModel", "clear", "(IIZ)V"⟩, 9) := ⟨⟨by decide +kernel, by decide +kernel⟩, List.mem_of_getElem? (i := 568) (by decide +kernel), List.mem_of_getElem? (i := 683) (by decide +kernel), List.mem_of_getElem? (i := 684) (by decide +kernel)⟩
theorem lw_p24 : lw_okq (⟨"TreeChangesModel", "isBelow", "(II)Z"⟩, 9) := ⟨⟨by decide +kernel, by decide +kernel⟩, List.mem_of_getElem? (i := 568) (by decide +kernel), List.mem_of_getElem? (i := 687) (by decide +kernel), List.mem_of_getElem? (i := 688) (by decide +kernel)⟩
theorem lw_p25 : lw_okq (⟨"TreeChangesModel", "longest", "(I)I"⟩, 9) := ⟨⟨by decide +kernel, by decide +kernel⟩, List.mem_of_getElem? (i := 568) (by decide +kernel), List.mem_of_getElem? (i := 695) (by decide +kernel), List.mem_of_getElem? (i := 696) (by decide +kernel)⟩
theorem lw_p26 : lw_okq (⟨"TreeChangesModel", "names", "(I)I"⟩, 9) := ⟨⟨by decide +kernel, by decide +kernel⟩, List.mem_of_getElem? (i := 568) (by decide +kernel), List.mem_of_getElem? (i := 699) (by decide +kernel), List.mem_of_getElem? (i := 700) (by decide +kernel)⟩
theorem lw_p27 : lw_okq (⟨"TreeChangesModel", "become", "(II)V"⟩, 9) := ⟨⟨by decide +kernel, by decide +kernel⟩, List.mem_of_getElem? (i := 568) (by decide +kernel), List.mem_of_getElem? (i := 703) (by decide +kernel), List.mem_of_getElem? (i := 704) (by decide +kernel)⟩
theorem lw_p28 : lw_okq (⟨"TreeChangesModel", "goes", "(II)V"⟩, 9) := ⟨⟨by decide +kernel, by decide +kernel⟩, List.mem_of_getElem? (i := 568) (by decide +kernel), List.mem_of_getElem? (i := 715) (by decide +kernel), List.mem_of_getElem? (i := 716) (by decide +kernel)⟩
theorem lw_p29 : lw_okq (⟨"TreeChangesModel", "isEmptied", "(II)Z"⟩, 9) := ⟨⟨by decide +kernel, by decide +kernel⟩, List.mem_of_getElem? (i := 568) (by decide +kernel), List.mem_of_getElem? (i := 719) (by decide +kernel), List.mem_of_getElem? (i := 720) (by decide +kernel)⟩
theorem lw_p30 : lw_okq (⟨"TreeChangesModel", "item", "(II)V"⟩, 9) := ⟨⟨by decide +kernel, by decide +kernel⟩, List.mem_of_getElem? (i := 568) (by decide +kernel), List.mem_of_getElem? (i := 723) (by decide +kernel), List.mem_of_getElem? (i := 724) (by decide +kernel)⟩
theorem lw_p31 : lw_okq (⟨"TreeChangesModel", "put", "(I)V"⟩, 9) := ⟨⟨by decide +kernel, by decide +kernel⟩, List.mem_of_getElem? (i := 568) (by decide +kernel), List.mem_of_getElem? (i := 727) (by decide +kernel), List.mem_of_getElem? (i := 728) (by decide +kernel)⟩
def lw_privs_2 : List (MethodName × Nat) := [(⟨"TreeChangesModel", "shorten", "(I)V"⟩, 9), (⟨"TreeChangesModel", "copyPath", "(II)V"⟩, 9), (⟨"TreeChangesModel", "isDirectory", "(II)Z"⟩, 9), (⟨"TreeChangesModel", "fails", "(ZZZ)Z"⟩, 9), (⟨"TreeChangesModel", "insert", "(III)I"⟩, 9), (⟨"TreeChangesModel", "shift", "(II)V"⟩, 9), (⟨"TreeChangesModel", "append", "(II)V"⟩, 9), (⟨"TreeChangesModel", "clear", "(IIZ)V"⟩, 9), (⟨"TreeChangesModel", "isBelow", "(II)Z"⟩, 9), (⟨"TreeChangesModel", "longest", "(I)I"⟩, 9), (⟨"TreeChangesModel", "names", "(I)I"⟩, 9), (⟨"TreeChangesModel", "become", "(II)V"⟩, 9), (⟨"TreeChangesModel", "goes", "(II)V"⟩, 9), (⟨"TreeChangesModel", "isEmptied", "(II)Z"⟩, 9), (⟨"TreeChangesModel", "item", "(II)V"⟩, 9), (⟨"TreeChangesModel", "put", "(I)V"⟩, 9)]
theorem lw_r2 : ∀ q ∈ lw_privs_2, lw_okq q := List.forall_mem_cons.mpr ⟨lw_p16, List.forall_mem_cons.mpr ⟨lw_p17, List.forall_mem_cons.mpr ⟨lw_p18, List.forall_mem_cons.mpr ⟨lw_p19, List.forall_mem_cons.mpr ⟨lw_p20, List.forall_mem_cons.mpr ⟨lw_p21, List.forall_mem_cons.mpr ⟨lw_p22, List.forall_mem_cons.mpr ⟨lw_p23, List.forall_mem_cons.mpr ⟨lw_p24, List.forall_mem_cons.mpr ⟨lw_p25, List.forall_mem_cons.mpr ⟨lw_p26, List.forall_mem_cons.mpr ⟨lw_p27, List.forall_mem_cons.mpr ⟨lw_p28, List.forall_mem_cons.mpr ⟨lw_p29, List.forall_mem_cons.mpr ⟨lw_p30, List.forall_mem_cons.mpr ⟨lw_p31, fun _ h => absurd h List.not_mem_nil⟩⟩⟩⟩⟩⟩⟩⟩⟩⟩⟩⟩⟩⟩⟩⟩
theorem lw_p32 : lw_okq (⟨"TreeChangesModel", "comes", "(II)V"⟩, 9) := ⟨⟨by decide +kernel, by decide +kernel⟩, List.mem_of_getElem? (i := 568) (by decide +kernel), List.mem_of_getElem? (i := 731) (by decide +kernel), List.mem_of_getElem? (i := 732) (by decide +kernel)⟩
theorem lw_p33 : lw_okq (⟨"TreeChangesModel", "isAlike", "(II)Z"⟩, 9) := ⟨⟨by decide +kernel, by decide +kernel⟩, List.mem_of_getElem? (i := 568) (by decide +kernel), List.mem_of_getElem? (i := 735) (by decide +kernel), List.mem_of_getElem? (i := 736) (by decide +kernel)⟩
theorem lw_p34 : lw_okq (⟨"TreeChangesModel", "done", "(III)Z"⟩, 9) := ⟨⟨by decide +kernel, by decide +kernel⟩, List.mem_of_getElem? (i := 568) (by decide +kernel), List.mem_of_getElem? (i := 747) (by decide +kernel), List.mem_of_getElem? (i := 748) (by decide +kernel)⟩
def lw_privs_3 : List (MethodName × Nat) := [(⟨"TreeChangesModel", "comes", "(II)V"⟩, 9), (⟨"TreeChangesModel", "isAlike", "(II)Z"⟩, 9), (⟨"TreeChangesModel", "done", "(III)Z"⟩, 9)]
theorem lw_r3 : ∀ q ∈ lw_privs_3, lw_okq q := List.forall_mem_cons.mpr ⟨lw_p32, List.forall_mem_cons.mpr ⟨lw_p33, List.forall_mem_cons.mpr ⟨lw_p34, fun _ h => absurd h List.not_mem_nil⟩⟩⟩
def lw_privs : List (MethodName × Nat) := lw_privs_1 ++ (lw_privs_2 ++ (lw_privs_3))
def lw_tbl : List Cond := k2_sels lw_privs ++ tables_1
theorem lw_privs_ok : ∀ q ∈ lw_privs, lw_okq q := by
  show ∀ q ∈ lw_privs_1 ++ (lw_privs_2 ++ (lw_privs_3)), lw_okq q
  exact List.forall_mem_append.mpr ⟨lw_r1, List.forall_mem_append.mpr ⟨lw_r2, lw_r3⟩⟩
/-! ===== BEGIN words of one list among another's, by their places ===== -/
theorem goodIn_r {big : List Cond} (ws : List Cond) (ps : List Nat) (hp : ws = ps.filterMap (fun i => big[i]?)) (h : ws.all goodWord = true) : GoodIn big ws := by
  intro w hw
  have h1 := List.all_eq_true.mp h w hw
  rw [hp] at hw
  obtain ⟨i, -, hi⟩ := List.mem_filterMap.mp hw
  have hm : w ∈ big := by first | exact List.mem_of_getElem? hi | exact List.getElem?_mem hi
  exact ⟨hm, good_of_word h1⟩
theorem goodIn_app {big a b : List Cond} (ha : GoodIn big a) (hb : GoodIn big b) : GoodIn big (a ++ b) := fun w h => (List.mem_append.mp h).elim (ha w) (hb w)
theorem goodIn_ca {big a b : List Cond} {c : Cond} (ha : GoodIn big (c :: a)) (hb : GoodIn big b) : GoodIn big (c :: (a ++ b)) := fun w h => (List.mem_cons.mp h).elim (fun e => ha w (List.mem_cons.mpr (Or.inl e))) (fun h => (List.mem_append.mp h).elim (fun h => ha w (List.mem_cons.mpr (Or.inr h))) (hb w))
theorem goodIn_sub {big ws : List Cond} (hm : ∀ w ∈ ws, w ∈ big) (h : ws.all goodWord = true) : GoodIn big ws := fun w hw => ⟨hm w hw, good_of_word (List.all_eq_true.mp h w hw)⟩
/-! ===== END ===== -/

/-! ===== BEGIN exceptions that leave a method, and their catching by the caller (launches without stack traces) ===== -/
section VXA
/-! The laws vx_back, vx_callV, vx_callS, vx_callSW, vx_throw0, vx_throwS follow proofs of the library, with one case more: JvmDerived/Free/Laws.lean (Back.of_free), Shelf42/LK1.lean (callV, callS), Shelf/KitTraced.lean (throwNew0V, throwNewS). -/
/-- where a method has thrown q: the class by its name, the cell, what was written, the world -/
def vx_T (XC : String → State → State → Prop) (st : State) (q : Addr) (t : State) (mc ms : Nat) (free : Addr → Prop) : Prop :=
  ∃ (E : String) (ce : Cell) (L : List Loc), XC E st t ∧ t.heap[q]? = some ce ∧ ce.vm = .none ∧ st.vm.findClass E = some ce.cls ∧ st.WarmedH t.vm ∧ st.sameButNew ({ t with vm := st.vm } : State) L mc ms ∧ ∀ z ∈ L, free z.base
def vx_Q (Qc : Array Value → State → Outcome → State → Prop) (XC : String → State → State → Prop) (mc ms : Nat) (free : Addr → Prop) : Array Value → State → Outcome → State → Prop := fun a st o t =>
  (Qc a st o t ∧ ∃ L, FrameEnd st o t L mc ms ∧ ∀ q ∈ L, free q.base) ∨ ∃ q, o = .threw q ∧ vx_T XC st q t mc ms free
/-- a callee that returns or throws -/
def vx_Met (l : Launch) (y : MethodName) (ws : List Cond) (rm : Room) (Pc : Array Value → State → Prop) (Qc : Array Value → State → Outcome → State → Prop) (XC : String → State → State → Prop) (mc ms : Nat) (free : Addr → Prop) : Prop :=
  MetFree l y (headSpec ws rm) Pc (fun _ _ _ _ _ => True) (vx_Q Qc XC mc ms free)
def vx_Post (XC : String → State → State → Prop) (mc ms : Nat) (free : Addr → Prop) : Pt → Array Value → Addr → Pt → Prop := fun A a q B =>
  ∃ (g : JFrame) (mk : MethodId) (t : State) (L : List Loc) (E : String) (ce : Cell), B.U.heap = t.heap ∧ B.U.vm = t.vm ∧ XC E (A.U.calling g mk a) t ∧ t.heap[q]? = some ce ∧ ce.vm = .none ∧ A.U.vm.findClass E = some ce.cls ∧ B.locs = A.locs ++ L ∧ (∀ z ∈ L, free z.base) ∧ B.cells = A.cells + mc ∧ B.slots = A.slots + ms
def vx_Back (l : Launch) (R : Room) (p : Program) (e : Env) (below : List Frame) (s : State) (sargs : Array Value) (y : MethodName) (len W9 : Nat)
    (Pre : Pt → Array Value → Prop) (Post : Pt → Array Value → Option Value → Pt → Prop) (PostX : Pt → Array Value → Addr → Pt → Prop) : Prop :=
  ∀ (m : MethodId) (meth : Method) (c : Code) (A : Pt) (g : JFrame) (ig : Instr) (mk : MethodId) (a : Array Value),
    Stand p l e R s m sargs below meth c A.U A.locs A.cells A.slots → g.method = m → g.locals.size = c.maxLocals → decode c.code g.pc = .ok (ig, len) →
    2 * g.monitorRoom + (g.stack.map fun v => v.category).sum ≤ W9 → A.U.methodNamed? y = some mk → Pre A a →
    (∃ (v : Option Value) (B : Pt), Stand p l e R s m sargs below meth c B.U B.locs B.cells B.slots ∧ Post A a v B ∧
      Steps p.tables e below (doInvoke e (A.U.setTop g) [] mk a).1 (B.U.setTop { g with pc := g.pc + len, stack := v.toList ++ g.stack })) ∨
    (∃ (q : Addr) (B : Pt), Stand p l e R s m sargs below meth c B.U B.locs B.cells B.slots ∧ PostX A a q B ∧
      Steps p.tables e below (doInvoke e (A.U.setTop g) [] mk a).1 ((B.U.setTop g).pushFrame (.throwing q)))
section Payer
variable {l : Launch} {R : Room} {p : Program} {e : Env} {below : List Frame} {s : State} {sargs : Array Value} {y : MethodName} {len W9 : Nat}
theorem vx_back {ws : List Cond} {rm : Room} {Pc : Array Value → State → Prop} {Qc : Array Value → State → Outcome → State → Prop} {XC : String → State → State → Prop} {mc ms : Nat} {free : Addr → Prop} {bytes : ByteArray} {maxL : Nat} {ret : Option FieldType}
    (hM : vx_Met l y ws rm Pc Qc XC mc ms free) (hblind : FrameBlind Pc) (hrc : rm.cells = mc) (hrs : rm.slots = ms)
    (hframes : rm.frames + 1 ≤ R.frames) (hlocals : W9 + (maxL + 11) + rm.locals ≤ R.locals)
    (hws : ∀ w ∈ ws, ∀ a' U, s.WarmedH U.vm → w.before a' U = true) (hcode : Cond.code y bytes maxL ret ∈ ws) (hinit : ∀ a' U, s.WarmedH U.vm → (Cond.initialized y.cls).before a' U = true) :
    vx_Back l R p e below s sargs y len W9 (PreOf R mc ms Pc) (PostOf Qc mc ms free) (vx_Post XC mc ms free) := by
  intro m meth c A g ig mk a X hg hsize hdg hW hn hp
  have h1 : (headSpec ws rm).pre.before a A.U = true := atoms_intro fun w hw => hws w hw _ _ X.warmed
  have h2 : (Cond.code y bytes maxL ret).before a A.U = true := hws _ hcode _ _ X.warmed
  have h3 : (Cond.initialized y.cls).before a A.U = true := hinit _ _ X.warmed
  have h4 : A.cells + (headSpec ws rm).room.cells ≤ R.cells := by rw [show (headSpec ws rm).room.cells = mc from hrc]; exact hp.1
  have h5 : A.slots + (headSpec ws rm).room.slots ≤ R.slots := by rw [show (headSpec ws rm).room.slots = ms from hrs]; exact hp.2.1
  have hPc : Pc a (A.U.calling g mk a) := hblind _ _ _ _ hp.2.2
  obtain ⟨U, Ls, c0, s0⟩ := A
  dsimp only [Pt.U, Pt.locs, Pt.cells, Pt.slots] at h1 h2 h3 h4 h5 X hn hPc ⊢
  obtain ⟨methY, cY, hmY, hcY, -, hlY, -, -, -, -⟩ := Cond.code_spec hn h2
  obtain ⟨kY, hkY, -⟩ := className_of_methodNamed hn
  have hinitY : kY.init = .initialized := Cond.initialized_spec (findClass_of_methodNamed hn) hkY h3
  have h : At U g.method c below := by rw [hg]; exact X.here
  have hlocals9 : W9 + (maxL + 11) + (headSpec ws rm).room.locals ≤ R.locals := hlocals
  have happ : (headSpec ws rm).appliesLoose y e.platform (U.calling g mk a) = true :=
    Spec.appliesLoose_calling (g := g) h hdg hn hkY hinitY
      (X.room_calling (g := g) (R' := (headSpec ws rm).room) hsize hmY hcY hframes (by rw [hlY]; omega) h4 h5) h1
  obtain ⟨mid, hmid⟩ := h.above
  have hfr : (U.setTop g).frames = (.java g :: mid) ++ below := by rw [State.frames_setTop' g h.top, hmid]; rfl
  obtain ⟨o, s₂, hsteps, -, hend, hq⟩ := Steps.callFree hM p X.admits X.cas X.clock (acts := []) hfr happ hPc trivial
  have hq' : vx_Q Qc XC mc ms free a (U.calling g mk a) o s₂ := hq
  rw [State.frames_setTop' g h.top] at hend
  obtain ⟨g₀, hg0⟩ := Option.isSome_iff_exists.mp h.top
  obtain ⟨r, hr⟩ := State.topJava?_eq_some.mp hg0
  have hr' : (({ U with heap := s₂.heap, slotsUsed := s₂.slotsUsed } : State).setVm s₂.vm).frames = .java g₀ :: r := hr
  rcases hq' with ⟨hqc, L, hfe, hL⟩ | ⟨q, rfl, E, ce, L, hx, hce, hcv, hcl, hW₂, hsm, hL⟩
  · obtain ⟨⟨v, rfl⟩, hW₂, e2, q2, q3, q4, q5, q6⟩ := id hfe
    have e3 : s₂ = ({ (U.calling g mk a).setFrames s₂.frames with heap := s₂.heap, slotsUsed := s₂.slotsUsed } : State).setVm s₂.vm := by
      have : s₂ = ({ s₂ with vm := (U.calling g mk a).vm } : State).setVm s₂.vm := rfl
      rw [e2] at this
      exact this
    obtain ⟨c₂, i₂, len₂, hc₂, hd₂, hf₂⟩ := hend
    have hW' : U.WarmedH s₂.vm := hW₂
    have hcc : c₂ = c := by
      have h1 : s₂.code? g.method = U.code? g.method := by
        rw [State.code?_eq, State.code?_eq, hW'.alike.method?]
      exact Option.some.inj (hc₂.symm.trans (h1.trans h.code))
    subst hcc
    have hlen : len₂ = len := by rw [hdg] at hd₂; cases hd₂; rfl
    subst hlen
    have hs₂ : s₂ = (({ U with heap := s₂.heap, slotsUsed := s₂.slotsUsed } : State).setVm s₂.vm).setTop { g with pc := g.pc + len₂, stack := v.toList ++ g.stack } := by
      refine e3.trans ?_
      rw [hf₂, State.calling_eq h.top, State.setFrames_setFrames, State.setTop_of_frames _ hr', hr]
      rfl
    have hsame : U.sameButNew ({ U with heap := s₂.heap, slotsUsed := s₂.slotsUsed } : State) L mc ms := by
      refine ⟨?_, q2, q3, q4, q5, q6⟩
      obtain ⟨t, ht, -⟩ := State.frames_cons hr
      show ({ U with heap := s₂.heap, slotsUsed := s₂.slotsUsed } : State) = { U.setFrames U.frames with heap := s₂.heap, slotsUsed := s₂.slotsUsed }
      rw [State.setFrames_self ht]
    subst hg
    refine Or.inl ⟨v, ⟨(({ U with heap := s₂.heap, slotsUsed := s₂.slotsUsed } : State).setVm s₂.vm), Ls ++ L, c0 + mc, s0 + ms⟩,
      ⟨X.admits, X.cas, X.clock, X.frames, X.room, X.hears, X.method, X.code, (X.here.setHeapUsed s₂.heap s₂.slotsUsed).setVm hW'.alike, X.tail, State.WarmedH.trans X.warmed hW', X.limits, X.bytes, X.same.trans (hsame.setVm s.vm)⟩,
      ⟨g, mk, s₂, L, rfl, rfl, hqc, rfl, hL, rfl, rfl⟩, ?_⟩
    show Steps p.tables e below _ ((({ U with heap := s₂.heap, slotsUsed := s₂.slotsUsed } : State).setVm s₂.vm).setTop { g with pc := g.pc + len₂, stack := v.toList ++ g.stack })
    rw [← hs₂]
    exact hsteps
  · obtain ⟨e2, q2, q3, q4, q5, q6⟩ := id hsm
    have e3 : s₂ = ({ (U.calling g mk a).setFrames s₂.frames with heap := s₂.heap, slotsUsed := s₂.slotsUsed } : State).setVm s₂.vm := by
      have : s₂ = ({ s₂ with vm := (U.calling g mk a).vm } : State).setVm s₂.vm := rfl
      rw [e2] at this
      exact this
    have hf₂ : s₂.frames = .throwing q :: .java g :: U.frames.tail := hend
    have hW' : U.WarmedH s₂.vm := hW₂
    have hs₂ : s₂ = ((({ U with heap := s₂.heap, slotsUsed := s₂.slotsUsed } : State).setVm s₂.vm).setTop g).pushFrame (.throwing q) := by
      refine e3.trans ?_
      rw [hf₂, State.calling_eq h.top, State.setFrames_setFrames, State.pushFrame, State.frames_setTop _ hr', State.setTop_of_frames _ hr', State.setFrames_setFrames, hr]
      rfl
    have hsame : U.sameButNew ({ U with heap := s₂.heap, slotsUsed := s₂.slotsUsed } : State) L mc ms := by
      refine ⟨?_, q2, q3, q4, q5, q6⟩
      obtain ⟨t, ht, -⟩ := State.frames_cons hr
      show ({ U with heap := s₂.heap, slotsUsed := s₂.slotsUsed } : State) = { U.setFrames U.frames with heap := s₂.heap, slotsUsed := s₂.slotsUsed }
      rw [State.setFrames_self ht]
    subst hg
    refine Or.inr ⟨q, ⟨(({ U with heap := s₂.heap, slotsUsed := s₂.slotsUsed } : State).setVm s₂.vm), Ls ++ L, c0 + mc, s0 + ms⟩,
      ⟨X.admits, X.cas, X.clock, X.frames, X.room, X.hears, X.method, X.code, (X.here.setHeapUsed s₂.heap s₂.slotsUsed).setVm hW'.alike, X.tail, State.WarmedH.trans X.warmed hW', X.limits, X.bytes, X.same.trans (hsame.setVm s.vm)⟩,
      ⟨g, mk, s₂, L, E, ce, rfl, rfl, hx, hce, hcv, hcl, rfl, hL, rfl, rfl⟩, ?_⟩
    show Steps p.tables e below _ (((({ U with heap := s₂.heap, slotsUsed := s₂.slotsUsed } : State).setVm s₂.vm).setTop g).pushFrame (.throwing q))
    rw [← hs₂]
    exact hsteps
end Payer
section Calls
variable {p : Program} {l : Launch} {e : Env} {R : Room} {s : State} {m : MethodId} {args : Array Value} {below : List Frame} {meth : Method} {c : Code} {T : State} {locs : List Loc} {cells slots : Nat}
theorem vx_callV (X : Stand p l e R s m args below meth c T locs cells slots) (hexec : p.tables.exec = Jvm.exec) {own C : String} {index : Nat} {y : MethodName} {bytes : ByteArray} {maxL : Nat} {ret : Option FieldType}
    (hown : s.vm.findClass own = some m.cls) (hlink : (Cond.methodLink own index y).before args s = true) (hinst : (Cond.instanceMethod y).before args s = true) (hsel : (Cond.selects C y y).before args s = true)
    (hcode : (Cond.code y bytes maxL ret).before args s = true) (hy : y.cls ≠ "java/lang/invoke/MethodHandle" ∧ y.cls ≠ "java/lang/invoke/VarHandle")
    {W9 : Nat} {Pre : Pt → Array Value → Prop} {Post : Pt → Array Value → Option Value → Pt → Prop} {PostX : Pt → Array Value → Addr → Pt → Prop} (hK : vx_Back l R p e below s args y 3 W9 Pre Post PostX)
    {b : Addr} {cellB : Cell} (hcell : T.heap[b]? = some cellB) (hobj : cellB.vm.isStatics = false) (hcls : s.vm.findClass C = some cellB.cls)
    {g : JFrame} (hg : g.method = m) (hsize : g.locals.size = c.maxLocals) {argsL rest : List Value} (hlen : ∀ sig, parseMethodDescriptor y.desc = some sig → argsL.length = sig.parameters.length)
    (hstack : g.stack = argsL.reverse ++ .ref b :: rest) (hW : 2 * g.monitorRoom + (rest.map fun v => v.category).sum ≤ W9) (hdg : decode c.code g.pc = .ok (.invokevirtual index, 3))
    (hpre : ∀ vm₁, s.WarmedH vm₁ → Pre ⟨T.setVm vm₁, locs, cells, slots⟩ (Value.ref b :: argsL).toArray) :
    (∃ (v : Option Value) (vm₁ : Vm) (B : Pt), s.WarmedH vm₁ ∧ Stand p l e R s m args below meth c B.U B.locs B.cells B.slots ∧ Post ⟨T.setVm vm₁, locs, cells, slots⟩ (Value.ref b :: argsL).toArray v B ∧
      ∀ target, Steps p.tables e below (B.U.setTop { g with pc := g.pc + 3, stack := v.toList ++ rest }) target → Steps p.tables e below (T.setTop g) target) ∨
    (∃ (q : Addr) (vm₁ : Vm) (B : Pt), s.WarmedH vm₁ ∧ Stand p l e R s m args below meth c B.U B.locs B.cells B.slots ∧ PostX ⟨T.setVm vm₁, locs, cells, slots⟩ (Value.ref b :: argsL).toArray q B ∧
      Steps p.tables e below (T.setTop g) ((B.U.setTop { g with stack := rest }).pushFrame (.throwing q))) := by
  obtain ⟨mk, methM, hnamed, hmethM, hstM, habM⟩ := Cond.instanceMethod_spec hinst
  obtain ⟨methM', cM, hmethM', -, -, -, -, -, -, hsigM⟩ := Cond.code_spec hnamed hcode
  cases hmethM.symm.trans hmethM'
  obtain ⟨c2, r2, m2, q1, q2, q3, q4, kP, hkP, hkPi⟩ := Cond.selects_spec hsel
  cases hcls.symm.trans q1
  cases (State.methodFound?_of_named hnamed hy).symm.trans q2
  cases hnamed.symm.trans q3
  have hselP : selectMethod e.platform s.vm cellB.cls mk = .method mk := by rw [Launch.admits_selectMethod X.admits]; exact q4
  obtain ⟨vm₁, X₁, hstep₁⟩ := X.invokevirtual hexec hown hlink hnamed hmethM hstM hkP hkPi hy (a := b) (cell := cellB) hcell
    (fun z h => by rw [h] at hobj; cases hobj) hselP hmethM habM hkP hkPi (g := g) hg (argsL := argsL) (rest := rest) (hlen _ hsigM) hstack hdg
  rcases hK m meth c ⟨T.setVm vm₁, locs, cells, slots⟩ { g with stack := rest } (.invokevirtual index) mk (Value.ref b :: argsL).toArray X₁ hg hsize hdg hW (X₁.named hnamed) (hpre vm₁ X₁.warmed) with ⟨v, B, X', hpost, hsteps⟩ | ⟨q, B, X', hpost, hsteps⟩
  · exact Or.inl ⟨v, vm₁, B, X₁.warmed, X', hpost, fun target h => hstep₁ _ fun acts => by rw [doInvoke_state]; exact hsteps.trans h⟩
  · exact Or.inr ⟨q, vm₁, B, X₁.warmed, X', hpost, hstep₁ _ fun acts => by rw [doInvoke_state]; exact hsteps⟩
theorem vx_callS (X : Stand p l e R s m args below meth c T locs cells slots) (hexec : p.tables.exec = Jvm.exec) {own : String} {index : Nat} {y : MethodName} {bytes : ByteArray} {maxL : Nat} {ret : Option FieldType}
    (hown : s.vm.findClass own = some m.cls) (hlink : (Cond.methodLink own index y).before args s = true) (hstat : (Cond.static y).before args s = true) (hinit : (Cond.initialized y.cls).before args s = true)
    (hcode : (Cond.code y bytes maxL ret).before args s = true) (hy : y.cls ≠ "java/lang/invoke/MethodHandle" ∧ y.cls ≠ "java/lang/invoke/VarHandle")
    {W9 : Nat} {Pre : Pt → Array Value → Prop} {Post : Pt → Array Value → Option Value → Pt → Prop} {PostX : Pt → Array Value → Addr → Pt → Prop} (hK : vx_Back l R p e below s args y 3 W9 Pre Post PostX)
    {g : JFrame} (hg : g.method = m) (hsize : g.locals.size = c.maxLocals) {argsL rest : List Value} (hlen : ∀ sig, parseMethodDescriptor y.desc = some sig → argsL.length = sig.parameters.length)
    (hstack : g.stack = argsL.reverse ++ rest) (hW : 2 * g.monitorRoom + (rest.map fun v => v.category).sum ≤ W9) (hdg : decode c.code g.pc = .ok (.invokestatic index, 3))
    (hpre : ∀ vm₁, s.WarmedH vm₁ → Pre ⟨T.setVm vm₁, locs, cells, slots⟩ argsL.toArray) :
    (∃ (v : Option Value) (vm₁ : Vm) (B : Pt), s.WarmedH vm₁ ∧ Stand p l e R s m args below meth c B.U B.locs B.cells B.slots ∧ Post ⟨T.setVm vm₁, locs, cells, slots⟩ argsL.toArray v B ∧
      ∀ target, Steps p.tables e below (B.U.setTop { g with pc := g.pc + 3, stack := v.toList ++ rest }) target → Steps p.tables e below (T.setTop g) target) ∨
    (∃ (q : Addr) (vm₁ : Vm) (B : Pt), s.WarmedH vm₁ ∧ Stand p l e R s m args below meth c B.U B.locs B.cells B.slots ∧ PostX ⟨T.setVm vm₁, locs, cells, slots⟩ argsL.toArray q B ∧
      Steps p.tables e below (T.setTop g) ((B.U.setTop { g with stack := rest }).pushFrame (.throwing q))) := by
  obtain ⟨mk, hnamed⟩ := Cond.code_named hcode
  obtain ⟨methM, cM, hmethM, -, -, -, -, -, -, hsigM⟩ := Cond.code_spec hnamed hcode
  have hstatic : methM.isStatic = true := Cond.static_spec hnamed hmethM hstat
  obtain ⟨kP, hkP, -⟩ := className_of_methodNamed hnamed
  have hinitP : kP.init = .initialized := Cond.initialized_spec (findClass_of_methodNamed hnamed) hkP hinit
  obtain ⟨vm₁, X₁, hstep₁⟩ := X.invokestatic hexec hown hlink hnamed hmethM hstatic hkP hinitP hy (g := g) hg (argsL := argsL) (rest := rest) (hlen _ hsigM) hstack hdg
  rcases hK m meth c ⟨T.setVm vm₁, locs, cells, slots⟩ { g with stack := rest } (.invokestatic index) mk argsL.toArray X₁ hg hsize hdg hW (X₁.named hnamed) (hpre vm₁ X₁.warmed) with ⟨v, B, X', hpost, hsteps⟩ | ⟨q, B, X', hpost, hsteps⟩
  · exact Or.inl ⟨v, vm₁, B, X₁.warmed, X', hpost, fun target h => hstep₁ _ fun acts => by rw [doInvoke_state]; exact hsteps.trans h⟩
  · exact Or.inr ⟨q, vm₁, B, X₁.warmed, X', hpost, hstep₁ _ fun acts => by rw [doInvoke_state]; exact hsteps⟩
end Calls
theorem vx_cls {s : State} {T : State} {vm₁ : Vm} {E : String} {k : ClassId} (hW : s.WarmedH vm₁) (h : (T.setVm vm₁).vm.findClass E = some k) : s.vm.findClass E = some k := by
  have h1 : vm₁.findClass E = some k := h
  rw [hW.alike.findClass] at h1
  exact h1
/-- the method's frame g, with q thrown over it -/
def vx_W (p : Program) (l : Launch) (e : Env) (R : Room) (s : State) (m : MethodId) (args : Array Value) (below : List Frame) (meth : Method) (c : Code) (H : Heap) (locs : List Loc) (cells slots : Nat) (Q : State → Prop) (g : JFrame) (q : Addr) : Prop :=
  ∀ T : State, T.heap = H → Stand p l e R s m args below meth c T locs cells slots → ∃ t, Steps p.tables e below ((T.setTop g).pushFrame (.throwing q)) t ∧ Q t
def vx_Run (p : Program) (l : Launch) (e : Env) (R : Room) (s : State) (m : MethodId) (args : Array Value) (below : List Frame) (meth : Method) (c : Code) (H : Heap) (locs : List Loc) (cells slots mc ms : Nat) (g : JFrame) (rest : List Value) (Qa : State → Outcome → State → Prop) (XC : String → State → State → Prop) (free : Addr → Prop) : Prop :=
  ∀ T : State, T.heap = H → Stand p l e R s m args below meth c T locs cells slots →
    (∃ (v : Option Value) (st₀ t T' : State) (L : List Loc), st₀.heap = H ∧ Stand p l e R s m args below meth c T' (locs ++ L) (cells + mc) (slots + ms) ∧ (∀ q ∈ L, free q.base) ∧ T'.heap = t.heap ∧ T'.vm = t.vm ∧ Qa st₀ (.returned v) t ∧
      Goes p e below T g T' { g with pc := g.pc + 3, stack := v.toList ++ rest }) ∨
    (∃ (q : Addr) (st₀ t T' : State) (L : List Loc) (E : String) (ce : Cell), st₀.heap = H ∧ Stand p l e R s m args below meth c T' (locs ++ L) (cells + mc) (slots + ms) ∧ (∀ z ∈ L, free z.base) ∧ T'.heap = t.heap ∧ T'.vm = t.vm ∧ XC E st₀ t ∧ t.heap[q]? = some ce ∧ ce.vm = .none ∧ s.vm.findClass E = some ce.cls ∧
      Steps p.tables e below (T.setTop g) ((T'.setTop { g with stack := rest }).pushFrame (.throwing q)))
def vx_X {S : Type} (px : S → Prop) (B : String → S → State → Prop) (A : Nat → Prop) : String → State → State → Prop := fun E st t => ∃ u : S, px u ∧ B E u t ∧ va_F A st t
section Runs
variable {p : Program} {l : Launch} {e : Env} {R : Room} {s : State} {m : MethodId} {args : Array Value} {below : List Frame} {meth : Method} {c : Code} {H : Heap} {locs : List Loc} {cells slots : Nat}
variable {y : MethodName} {bytes cc : ByteArray} {maxL nL mc ms n index : Nat} {ret : Option FieldType} {ws : List Cond} {rm : Room} {Pc : Array Value → State → Prop} {Qc : Array Value → State → Outcome → State → Prop} {XC : String → State → State → Prop} {free : Addr → Prop} {Ts : List Cond} {own C : String} {b : Addr} {As rest : List Value} {g : JFrame}
theorem vx_callBack (cb : CallB R s args own index y bytes maxL ret ws rm mc ms n) (hM : vx_Met l y ws rm Pc Qc XC mc ms free) (hbl : FrameBlind Pc) : vx_Back l R p e below s args y 3 8 (PreOf R mc ms Pc) (PostOf Qc mc ms free) (vx_Post XC mc ms free) := by
  obtain ⟨hrc, hrs, hfr, hlo, hws, hcw, -, hini, -⟩ := cb
  exact vx_back (bytes := bytes) (maxL := maxL) (ret := ret) hM hbl hrc hrs hfr hlo hws hcw (fun a' U hW => word_at hW (Or.inl (by first | rfl | simp [Cond.onTables, Cond.keeps, Cond.steady])) hini)
theorem vx_runV (S : CallFix p m c cc nL s args Ts own) (hM : vx_Met l y ws rm Pc Qc XC mc ms free) (cw : CallW R s args own C index y bytes maxL ret ws rm mc ms n) (hp : PreV s H C b Pc As)
    (hg : g.method = m) (hn : As.length = n) (hsize : g.locals.size = nL) (hstack : g.stack = As.reverse ++ .ref b :: rest) (hW : 2 * g.monitorRoom + (rest.map fun v => v.category).sum ≤ 8) (hdg : decode cc g.pc = .ok (.invokevirtual index, 3)) (hf : cells + mc ≤ R.cells ∧ slots + ms ≤ R.slots) :
    vx_Run p l e R s m args below meth c H locs cells slots mc ms g rest (Qc (Value.ref b :: As).toArray) XC free := by
  have hK : vx_Back l R p e below s args y 3 8 (PreOf R mc ms Pc) (PostOf Qc mc ms free) (vx_Post XC mc ms free) := vx_callBack cw.1 hM hp.1
  obtain ⟨⟨-, -, -, -, -, -, hcode, -, hy, hlen, hl⟩, hin, hse⟩ := cw
  obtain ⟨hx, hb, hml, ho, -⟩ := S
  obtain ⟨-, ⟨cellB, hcB, hoB, hclB⟩, hPc⟩ := hp
  intro T hT X
  rcases vx_callV X hx (C := C) (bytes := bytes) (maxL := maxL) (ret := ret) ho hl hin hse hcode hy hK (by rw [hT]; exact hcB) hoB hclB hg (hsize.trans hml.symm) (argsL := As) (rest := rest) (fun sig h => hn.trans (hlen sig h)) hstack hW (by rw [hb]; exact hdg)
    (fun vm₁ hW₁ => ⟨hf.1, hf.2, hPc (T.setVm vm₁) hT hW₁⟩) with ⟨v, vm₁, ⟨U', l2, c2, s2⟩, hW₁, X', ⟨g', mk, t, L, e1, e2, hq, h1, hL, h2, h3⟩, st⟩ | ⟨q, vm₁, ⟨U', l2, c2, s2⟩, hW₁, X', ⟨g', mk, t, L, E, ce, e1, e2, hq, hce, hcv, hcl, h1, hL, h2, h3⟩, st⟩
  · dsimp only [Pt.U, Pt.locs, Pt.cells, Pt.slots] at X' e1 e2 h1 h2 h3 st
    subst h1; subst h2; subst h3
    exact Or.inl ⟨v, (T.setVm vm₁).calling g' mk (Value.ref b :: As).toArray, t, U', L, hT, X', hL, e1, e2, hq, st⟩
  · dsimp only [Pt.U, Pt.locs, Pt.cells, Pt.slots] at X' e1 e2 h1 h2 h3 st hcl
    subst h1; subst h2; subst h3
    exact Or.inr ⟨q, (T.setVm vm₁).calling g' mk (Value.ref b :: As).toArray, t, U', L, E, ce, hT, X', hL, e1, e2, hq, hce, hcv, vx_cls hW₁ hcl, st⟩
theorem vx_runS (S : CallFix p m c cc nL s args Ts own) (hM : vx_Met l y ws rm Pc Qc XC mc ms free) (cw : CallB R s args own index y bytes maxL ret ws rm mc ms n ∧ (Cond.static y).before args s = true) (hp : PreS s H Pc As)
    (hg : g.method = m) (hn : As.length = n) (hsize : g.locals.size = nL) (hstack : g.stack = As.reverse ++ rest) (hW : 2 * g.monitorRoom + (rest.map fun v => v.category).sum ≤ 8) (hdg : decode cc g.pc = .ok (.invokestatic index, 3)) (hf : cells + mc ≤ R.cells ∧ slots + ms ≤ R.slots) :
    vx_Run p l e R s m args below meth c H locs cells slots mc ms g rest (Qc As.toArray) XC free := by
  have hK : vx_Back l R p e below s args y 3 8 (PreOf R mc ms Pc) (PostOf Qc mc ms free) (vx_Post XC mc ms free) := vx_callBack cw.1 hM hp.1
  obtain ⟨⟨-, -, -, -, -, -, hcode, hini, hy, hlen, hl⟩, hstt⟩ := cw
  obtain ⟨hx, hb, hml, ho, -⟩ := S
  intro T hT X
  rcases vx_callS X hx (bytes := bytes) (maxL := maxL) (ret := ret) ho hl hstt hini hcode hy hK hg (hsize.trans hml.symm) (argsL := As) (rest := rest) (fun sig h => hn.trans (hlen sig h)) hstack hW (by rw [hb]; exact hdg)
    (fun vm₁ hW₁ => ⟨hf.1, hf.2, hp.2 (T.setVm vm₁) hT hW₁⟩) with ⟨v, vm₁, ⟨U', l2, c2, s2⟩, hW₁, X', ⟨g', mk, t, L, e1, e2, hq, h1, hL, h2, h3⟩, st⟩ | ⟨q, vm₁, ⟨U', l2, c2, s2⟩, hW₁, X', ⟨g', mk, t, L, E, ce, e1, e2, hq, hce, hcv, hcl, h1, hL, h2, h3⟩, st⟩
  · dsimp only [Pt.U, Pt.locs, Pt.cells, Pt.slots] at X' e1 e2 h1 h2 h3 st
    subst h1; subst h2; subst h3
    exact Or.inl ⟨v, (T.setVm vm₁).calling g' mk As.toArray, t, U', L, hT, X', hL, e1, e2, hq, st⟩
  · dsimp only [Pt.U, Pt.locs, Pt.cells, Pt.slots] at X' e1 e2 h1 h2 h3 st hcl
    subst h1; subst h2; subst h3
    exact Or.inr ⟨q, (T.setVm vm₁).calling g' mk As.toArray, t, U', L, E, ce, hT, X', hL, e1, e2, hq, hce, hcv, vx_cls hW₁ hcl, st⟩
end Runs
section Rows
variable {p : Program} {l : Launch} {e : Env} {R : Room} {s : State} {m : MethodId} {args : Array Value} {below : List Frame} {meth : Method} {c : Code} {H : Heap} {locs : List Loc} {cells slots : Nat} {Q : State → Prop}
variable {mc ms : Nat} {free : Addr → Prop} {A0 A1 : Nat → Prop} {H0 : Heap} {a : Array Value} {pc : Nat} {ls : Array Slot} {st0 rest : List Value}
theorem vx_keep {st₀ t T' : State} {L : List Loc} (h0 : st₀.heap = H) (e1 : T'.heap = t.heap) (hS : va_S A0 H0 H locs) (hA : ∀ q, q < H.size → A1 q → A0 q) (hf : ∀ q, free q → A0 q) (hL : ∀ q ∈ L, free q.base) (hF : va_F A1 st₀ t) :
    H.size ≤ T'.heap.size ∧ (∀ q : Nat, q < H.size → ¬ A1 q → T'.heap[q]? = H[q]?) ∧ va_S A0 H0 T'.heap (locs ++ L) := by
  obtain ⟨hz, hk⟩ := hF
  rw [h0] at hz hk
  exact ⟨by rw [e1]; exact hz, fun q h1 h2 => by rw [e1]; exact hk q h1 h2,
    ⟨Nat.le_trans hS.1 (by rw [e1]; exact hz), fun q h1 h2 => by rw [e1, hk q (Nat.lt_of_lt_of_le h1 hS.1) (fun z => h2 (hA q (Nat.lt_of_lt_of_le h1 hS.1) z))]; exact hS.2.1 q h1 h2, fun q hq => by
      rcases List.mem_append.mp hq with h | h
      · exact hS.2.2 q h
      · exact hf _ (hL q h)⟩⟩
theorem vx_calli {S SX : Type} {post : Int32 → S → Prop} {px : SX → Prop} {B : S → State → Prop} {BX : String → SX → State → Prop} {AX : Nat → Prop} (hr : vx_Run p l e R s m args below meth c H locs cells slots mc ms (F0 m pc ls st0) rest (va_Qi post B A1 a) (vx_X px BX AX) free) (hS : va_S A0 H0 H locs) (hA : ∀ q, q < H.size → A1 q → A0 q) (hf : ∀ q, free q → A0 q) (hAX : ∀ q, q < H.size → AX q → A0 q)
    (kx : ∀ (E : String) (ce : Cell) (q9 : Addr) (u : SX) (t : State) (H1 : Heap) (locs1 : List Loc), t.heap = H1 → s.vm.Alike t.vm → px u → BX E u t → H.size ≤ H1.size → (∀ q : Nat, q < H.size → ¬ AX q → H1[q]? = H[q]?) → va_S A0 H0 H1 locs1 → H1[q9]? = some ce → ce.vm = .none → s.vm.findClass E = some ce.cls → vx_W p l e R s m args below meth c H1 locs1 (cells + mc) (slots + ms) Q (F0 m pc ls rest) q9)
    (kk : ∀ (r : Int32) (u : S) (t : State) (H1 : Heap) (locs1 : List Loc), t.heap = H1 → s.vm.Alike t.vm → post r u → B u t → H.size ≤ H1.size → (∀ q : Nat, q < H.size → ¬ A1 q → H1[q]? = H[q]?) → va_S A0 H0 H1 locs1 → W p l e R s m args below meth c H1 locs1 (cells + mc) (slots + ms) Q (F0 m (pc + 3) ls (.int r :: rest))) : W p l e R s m args below meth c H locs cells slots Q (F0 m pc ls st0) := by
  intro T hT X
  rcases hr T hT X with ⟨v, st₀, t, T', L, h0, X', hL, e1, e2, ⟨⟨r, u, hv, hp, hb⟩, hF⟩, st⟩ | ⟨q, st₀, t, T', L, E, ce, h0, X', hL, e1, e2, ⟨u, hp, hb, hF⟩, hce, hcv, hcl, st⟩
  · cases hv
    obtain ⟨k1, k2, k3⟩ := vx_keep h0 e1 hS hA hf hL hF
    obtain ⟨t2, a1, b1⟩ := kk r u t T'.heap (locs ++ L) e1.symm (by rw [← e2]; exact X'.warmed.alike) hp hb k1 k2 k3 T' rfl X'
    exact ⟨t2, st t2 a1, b1⟩
  · obtain ⟨k1, k2, k3⟩ := vx_keep h0 e1 hS hAX hf hL hF
    obtain ⟨t2, a1, b1⟩ := kx E ce q u t T'.heap (locs ++ L) e1.symm (by rw [← e2]; exact X'.warmed.alike) hp hb k1 k2 k3 (by rw [e1]; exact hce) hcv hcl T' rfl X'
    exact ⟨t2, st.trans a1, b1⟩
theorem vx_calll {S SX : Type} {post : Int64 → S → Prop} {px : SX → Prop} {B : S → State → Prop} {BX : String → SX → State → Prop} {AX : Nat → Prop} (hr : vx_Run p l e R s m args below meth c H locs cells slots mc ms (F0 m pc ls st0) rest (va_Ql post B A1 a) (vx_X px BX AX) free) (hS : va_S A0 H0 H locs) (hA : ∀ q, q < H.size → A1 q → A0 q) (hf : ∀ q, free q → A0 q) (hAX : ∀ q, q < H.size → AX q → A0 q)
    (kx : ∀ (E : String) (ce : Cell) (q9 : Addr) (u : SX) (t : State) (H1 : Heap) (locs1 : List Loc), t.heap = H1 → s.vm.Alike t.vm → px u → BX E u t → H.size ≤ H1.size → (∀ q : Nat, q < H.size → ¬ AX q → H1[q]? = H[q]?) → va_S A0 H0 H1 locs1 → H1[q9]? = some ce → ce.vm = .none → s.vm.findClass E = some ce.cls → vx_W p l e R s m args below meth c H1 locs1 (cells + mc) (slots + ms) Q (F0 m pc ls rest) q9)
    (kk : ∀ (r : Int64) (u : S) (t : State) (H1 : Heap) (locs1 : List Loc), t.heap = H1 → s.vm.Alike t.vm → post r u → B u t → H.size ≤ H1.size → (∀ q : Nat, q < H.size → ¬ A1 q → H1[q]? = H[q]?) → va_S A0 H0 H1 locs1 → W p l e R s m args below meth c H1 locs1 (cells + mc) (slots + ms) Q (F0 m (pc + 3) ls (.long r :: rest))) : W p l e R s m args below meth c H locs cells slots Q (F0 m pc ls st0) := by
  intro T hT X
  rcases hr T hT X with ⟨v, st₀, t, T', L, h0, X', hL, e1, e2, ⟨⟨r, u, hv, hp, hb⟩, hF⟩, st⟩ | ⟨q, st₀, t, T', L, E, ce, h0, X', hL, e1, e2, ⟨u, hp, hb, hF⟩, hce, hcv, hcl, st⟩
  · cases hv
    obtain ⟨k1, k2, k3⟩ := vx_keep h0 e1 hS hA hf hL hF
    obtain ⟨t2, a1, b1⟩ := kk r u t T'.heap (locs ++ L) e1.symm (by rw [← e2]; exact X'.warmed.alike) hp hb k1 k2 k3 T' rfl X'
    exact ⟨t2, st t2 a1, b1⟩
  · obtain ⟨k1, k2, k3⟩ := vx_keep h0 e1 hS hAX hf hL hF
    obtain ⟨t2, a1, b1⟩ := kx E ce q u t T'.heap (locs ++ L) e1.symm (by rw [← e2]; exact X'.warmed.alike) hp hb k1 k2 k3 (by rw [e1]; exact hce) hcv hcl T' rfl X'
    exact ⟨t2, st.trans a1, b1⟩
theorem vx_callf {S SX : Type} {post : UInt32 → S → Prop} {px : SX → Prop} {B : S → State → Prop} {BX : String → SX → State → Prop} {AX : Nat → Prop} (hr : vx_Run p l e R s m args below meth c H locs cells slots mc ms (F0 m pc ls st0) rest (va_Qf post B A1 a) (vx_X px BX AX) free) (hS : va_S A0 H0 H locs) (hA : ∀ q, q < H.size → A1 q → A0 q) (hf : ∀ q, free q → A0 q) (hAX : ∀ q, q < H.size → AX q → A0 q)
    (kx : ∀ (E : String) (ce : Cell) (q9 : Addr) (u : SX) (t : State) (H1 : Heap) (locs1 : List Loc), t.heap = H1 → s.vm.Alike t.vm → px u → BX E u t → H.size ≤ H1.size → (∀ q : Nat, q < H.size → ¬ AX q → H1[q]? = H[q]?) → va_S A0 H0 H1 locs1 → H1[q9]? = some ce → ce.vm = .none → s.vm.findClass E = some ce.cls → vx_W p l e R s m args below meth c H1 locs1 (cells + mc) (slots + ms) Q (F0 m pc ls rest) q9)
    (kk : ∀ (r : UInt32) (u : S) (t : State) (H1 : Heap) (locs1 : List Loc), t.heap = H1 → s.vm.Alike t.vm → post r u → B u t → H.size ≤ H1.size → (∀ q : Nat, q < H.size → ¬ A1 q → H1[q]? = H[q]?) → va_S A0 H0 H1 locs1 → W p l e R s m args below meth c H1 locs1 (cells + mc) (slots + ms) Q (F0 m (pc + 3) ls (.float r :: rest))) : W p l e R s m args below meth c H locs cells slots Q (F0 m pc ls st0) := by
  intro T hT X
  rcases hr T hT X with ⟨v, st₀, t, T', L, h0, X', hL, e1, e2, ⟨⟨r, u, hv, hp, hb⟩, hF⟩, st⟩ | ⟨q, st₀, t, T', L, E, ce, h0, X', hL, e1, e2, ⟨u, hp, hb, hF⟩, hce, hcv, hcl, st⟩
  · cases hv
    obtain ⟨k1, k2, k3⟩ := vx_keep h0 e1 hS hA hf hL hF
    obtain ⟨t2, a1, b1⟩ := kk r u t T'.heap (locs ++ L) e1.symm (by rw [← e2]; exact X'.warmed.alike) hp hb k1 k2 k3 T' rfl X'
    exact ⟨t2, st t2 a1, b1⟩
  · obtain ⟨k1, k2, k3⟩ := vx_keep h0 e1 hS hAX hf hL hF
    obtain ⟨t2, a1, b1⟩ := kx E ce q u t T'.heap (locs ++ L) e1.symm (by rw [← e2]; exact X'.warmed.alike) hp hb k1 k2 k3 (by rw [e1]; exact hce) hcv hcl T' rfl X'
    exact ⟨t2, st.trans a1, b1⟩
theorem vx_calld {S SX : Type} {post : UInt64 → S → Prop} {px : SX → Prop} {B : S → State → Prop} {BX : String → SX → State → Prop} {AX : Nat → Prop} (hr : vx_Run p l e R s m args below meth c H locs cells slots mc ms (F0 m pc ls st0) rest (va_Qd post B A1 a) (vx_X px BX AX) free) (hS : va_S A0 H0 H locs) (hA : ∀ q, q < H.size → A1 q → A0 q) (hf : ∀ q, free q → A0 q) (hAX : ∀ q, q < H.size → AX q → A0 q)
    (kx : ∀ (E : String) (ce : Cell) (q9 : Addr) (u : SX) (t : State) (H1 : Heap) (locs1 : List Loc), t.heap = H1 → s.vm.Alike t.vm → px u → BX E u t → H.size ≤ H1.size → (∀ q : Nat, q < H.size → ¬ AX q → H1[q]? = H[q]?) → va_S A0 H0 H1 locs1 → H1[q9]? = some ce → ce.vm = .none → s.vm.findClass E = some ce.cls → vx_W p l e R s m args below meth c H1 locs1 (cells + mc) (slots + ms) Q (F0 m pc ls rest) q9)
    (kk : ∀ (r : UInt64) (u : S) (t : State) (H1 : Heap) (locs1 : List Loc), t.heap = H1 → s.vm.Alike t.vm → post r u → B u t → H.size ≤ H1.size → (∀ q : Nat, q < H.size → ¬ A1 q → H1[q]? = H[q]?) → va_S A0 H0 H1 locs1 → W p l e R s m args below meth c H1 locs1 (cells + mc) (slots + ms) Q (F0 m (pc + 3) ls (.double r :: rest))) : W p l e R s m args below meth c H locs cells slots Q (F0 m pc ls st0) := by
  intro T hT X
  rcases hr T hT X with ⟨v, st₀, t, T', L, h0, X', hL, e1, e2, ⟨⟨r, u, hv, hp, hb⟩, hF⟩, st⟩ | ⟨q, st₀, t, T', L, E, ce, h0, X', hL, e1, e2, ⟨u, hp, hb, hF⟩, hce, hcv, hcl, st⟩
  · cases hv
    obtain ⟨k1, k2, k3⟩ := vx_keep h0 e1 hS hA hf hL hF
    obtain ⟨t2, a1, b1⟩ := kk r u t T'.heap (locs ++ L) e1.symm (by rw [← e2]; exact X'.warmed.alike) hp hb k1 k2 k3 T' rfl X'
    exact ⟨t2, st t2 a1, b1⟩
  · obtain ⟨k1, k2, k3⟩ := vx_keep h0 e1 hS hAX hf hL hF
    obtain ⟨t2, a1, b1⟩ := kx E ce q u t T'.heap (locs ++ L) e1.symm (by rw [← e2]; exact X'.warmed.alike) hp hb k1 k2 k3 (by rw [e1]; exact hce) hcv hcl T' rfl X'
    exact ⟨t2, st.trans a1, b1⟩
theorem vx_callv {S SX : Type} {post : S → Prop} {px : SX → Prop} {B : S → State → Prop} {BX : String → SX → State → Prop} {AX : Nat → Prop} (hr : vx_Run p l e R s m args below meth c H locs cells slots mc ms (F0 m pc ls st0) rest (va_Qv post B A1 a) (vx_X px BX AX) free) (hS : va_S A0 H0 H locs) (hA : ∀ q, q < H.size → A1 q → A0 q) (hf : ∀ q, free q → A0 q) (hAX : ∀ q, q < H.size → AX q → A0 q)
    (kx : ∀ (E : String) (ce : Cell) (q9 : Addr) (u : SX) (t : State) (H1 : Heap) (locs1 : List Loc), t.heap = H1 → s.vm.Alike t.vm → px u → BX E u t → H.size ≤ H1.size → (∀ q : Nat, q < H.size → ¬ AX q → H1[q]? = H[q]?) → va_S A0 H0 H1 locs1 → H1[q9]? = some ce → ce.vm = .none → s.vm.findClass E = some ce.cls → vx_W p l e R s m args below meth c H1 locs1 (cells + mc) (slots + ms) Q (F0 m pc ls rest) q9)
    (kk : ∀ (u : S) (t : State) (H1 : Heap) (locs1 : List Loc), t.heap = H1 → s.vm.Alike t.vm → post u → B u t → H.size ≤ H1.size → (∀ q : Nat, q < H.size → ¬ A1 q → H1[q]? = H[q]?) → va_S A0 H0 H1 locs1 → W p l e R s m args below meth c H1 locs1 (cells + mc) (slots + ms) Q (F0 m (pc + 3) ls (rest))) : W p l e R s m args below meth c H locs cells slots Q (F0 m pc ls st0) := by
  intro T hT X
  rcases hr T hT X with ⟨v, st₀, t, T', L, h0, X', hL, e1, e2, ⟨⟨u, hv, hp, hb⟩, hF⟩, st⟩ | ⟨q, st₀, t, T', L, E, ce, h0, X', hL, e1, e2, ⟨u, hp, hb, hF⟩, hce, hcv, hcl, st⟩
  · cases hv
    obtain ⟨k1, k2, k3⟩ := vx_keep h0 e1 hS hA hf hL hF
    obtain ⟨t2, a1, b1⟩ := kk u t T'.heap (locs ++ L) e1.symm (by rw [← e2]; exact X'.warmed.alike) hp hb k1 k2 k3 T' rfl X'
    exact ⟨t2, st t2 a1, b1⟩
  · obtain ⟨k1, k2, k3⟩ := vx_keep h0 e1 hS hAX hf hL hF
    obtain ⟨t2, a1, b1⟩ := kx E ce q u t T'.heap (locs ++ L) e1.symm (by rw [← e2]; exact X'.warmed.alike) hp hb k1 k2 k3 (by rw [e1]; exact hce) hcv hcl T' rfl X'
    exact ⟨t2, st.trans a1, b1⟩
/-- caught by the row x of this method's table; the rows ahead don't take it -/
theorem vx_catch {own name : String} {E : String} {ce : Cell} {q : Addr} (hown : s.vm.findClass own = some m.cls) (pre : List ExceptionTableEntry) (x : ExceptionTableEntry) (suf : List ExceptionTableEntry) (hsplit : c.exceptionTable.toList = pre ++ x :: suf)
    (hpass : ∀ z ∈ pre, covers z pc = false ∨ (z.catchType ≠ 0 ∧ ∃ nm : String, (Cond.classLink own z.catchType nm).before args s = true ∧ va_Nc E nm s)) (hx : covers x pc = true) (h0 : x.catchType ≠ 0)
    (hlink : (Cond.classLink own x.catchType name).before args s = true) (hcast : (Cond.castable E name).before args s = true) (hcell : H[q]? = some ce) (hv : ce.vm = .none) (hcl : s.vm.findClass E = some ce.cls)
    (kk : W p l e R s m args below meth c H locs cells slots Q (F0 m x.handlerPc ls [.ref q])) : vx_W p l e R s m args below meth c H locs cells slots Q (F0 m pc ls rest) q := by
  intro T hT X
  have hpl : e.platform.magicAccessors = ({} : Platform).magicAccessors := by rw [X.admits.platform]
  obtain ⟨c3, c4, hc3, hc4, hasg⟩ := Cond.castable_spec hcast
  cases Option.some.inj (hc3.symm.trans hcl)
  obtain ⟨c5, hc5, hcl5⟩ := Cond.classLink_spec hown hlink e.platform hpl
  cases Option.some.inj (hc4.symm.trans hc5)
  obtain ⟨vm', X', st⟩ := X.thenCaughtThrough q (g := F0 m pc ls rest) rfl (Steps.refl _) (by rw [hT]; exact hcell) (by rw [hv]; rfl) (by obtain ⟨k9, h9, -⟩ := Vm.findClass_spec hcl; exact ⟨k9, h9⟩) pre x suf hsplit
    (fun z hz => by
      rcases hpass z hz with h | ⟨hz0, nm, hl1, hn1⟩
      · exact Or.inl h
      · obtain ⟨c6, hc6, hcl6⟩ := Cond.classLink_spec hown hl1 e.platform hpl
        obtain ⟨a8, b8, h1, h2, h3⟩ := hn1
        cases Option.some.inj (h1.symm.trans hcl)
        cases Option.some.inj (h2.symm.trans hc6)
        exact Or.inr ⟨hz0, _, hcl6, h3⟩) hx (Or.inr ⟨h0, c4, hcl5, hasg⟩)
  obtain ⟨t, a1, b1⟩ := kk (T.setVm vm') hT X'
  exact ⟨t, st.trans a1, b1⟩
end Rows
section Ends
variable {p : Program} {l : Launch} {e : Env} {R : Room} {s : State} {m : MethodId} {args : Array Value} {below : List Frame} {meth : Method} {c : Code} {H : Heap} {locs : List Loc} {cells slots : Nat} {Q : State → Prop}
variable {mc ms : Nat} {free : Addr → Prop} {A0 A1 : Nat → Prop} {H0 : Heap} {a : Array Value} {ls : Array Slot} {st0 rest : List Value}
variable {Qc : Array Value → State → Outcome → State → Prop} {XC : String → State → State → Prop}
/-- what a body that may throw owes at its end -/
def vx_MQ (below : List Frame) (Qc : Array Value → State → Outcome → State → Prop) (XC : String → State → State → Prop) (a : Array Value) (s : State) (mc ms : Nat) (free : Addr → Prop) : State → Prop := fun t =>
  ∃ o, t.status = .running ∧ Ended t below o ∧ vx_Q Qc XC mc ms free a s o t
theorem vx_ret {g : JFrame} {mc ms : Nat} (k : W p l e R s m args below meth c H locs cells slots (MQ below Qc args s mc ms free) g) : W p l e R s m args below meth c H locs cells slots (vx_MQ below Qc XC args s mc ms free) g := by
  intro T hT X
  obtain ⟨t, a1, o, b1, b2, b3, b4⟩ := k T hT X
  exact ⟨t, a1, o, b1, b2, Or.inl ⟨b3, b4⟩⟩
/-- not caught here: it goes on to the caller -/
theorem vx_widen {g : JFrame} {q : Addr} {k n : Nat} (h1 : cells ≤ k) (h2 : slots ≤ n) (kk : vx_W p l e R s m args below meth c H locs k n Q g q) : vx_W p l e R s m args below meth c H locs cells slots Q g q := fun T hT X => kk T hT (stand_widen X h1 h2)
theorem vx_out {pc : Nat} {E : String} {ce : Cell} {q : Addr} {mc ms : Nat} (hout : ∀ x ∈ c.exceptionTable.toList, covers x pc = false) (hlocks : meth.locks = false) (hcell : H[q]? = some ce) (hv : ce.vm = .none) (hcl : s.vm.findClass E = some ce.cls)
    (hx : ∀ t : State, t.heap = H → s.vm.Alike t.vm → XC E s t) (hf : ∀ z ∈ locs, free z.base) (hc : cells ≤ mc) (hs : slots ≤ ms) :
    vx_W p l e R s m args below meth c H locs cells slots (vx_MQ below Qc XC args s mc ms free) (F0 m pc ls rest) q := by
  intro T hT X
  obtain ⟨st1, hrun, hend, hW, hsm⟩ := X.leaveThrown q (g := F0 m pc ls rest) rfl rfl rfl hout hlocks
  have hcell9 : (T.setFrames (.throwing q :: below)).heap[q]? = some ce := by
    show T.heap[q]? = some ce
    rw [hT]; exact hcell
  exact ⟨_, st1, .threw q, hrun, hend, Or.inr ⟨q, rfl, E, ce, locs, hx _ hT hW.alike, hcell9, hv, hcl, hW, hsm.mono hc hs, hf⟩⟩
theorem vx_frame {U : State} {k n : Nat} (h : s.sameButNew ({ U with vm := s.vm } : State) locs k n) : s.heap.size ≤ U.heap.size ∧ ∀ q : Nat, q < s.heap.size → (∀ z ∈ locs, z.base ≠ q) → U.heap[q]? = s.heap[q]? := by
  obtain ⟨-, h2, -, -, -, h6⟩ := h
  refine ⟨h2, fun q hq hz => ?_⟩
  obtain ⟨c9, e1, e2, e3, e4⟩ := h6 q _ (Array.getElem?_eq_getElem hq)
  have hs : c9.slots = (s.heap[q]).slots := Array.ext_getElem? fun i => e4 i fun hm => hz _ hm rfl
  have h9 : c9 = s.heap[q] := by
    rw [hs] at e2
    exact e2
  have e5 : U.heap[q]? = some c9 := e1
  rw [e5, h9, Array.getElem?_eq_getElem hq]
/-- the words of a throw but the four that speak of the heap -/
def vx_no (w : Cond) : Bool := decide (w ≠ .isRef (.static Bundle.tN "UNASSIGNED_STACK" Bundle.steD)) && decide (w ≠ .isRef (.static Bundle.tN "SUPPRESSED_SENTINEL" Bundle.listD)) && decide (w ≠ .laysStatic Bundle.tN "UNASSIGNED_STACK" Bundle.steD) && decide (w ≠ .laysStatic Bundle.tN "SUPPRESSED_SENTINEL" Bundle.listD)
def vx_at0 (own : String) (ic : Nat) (X : String) (names : List String) : List Cond := (Bundle.ownAtoms0 own ic X names).filter vx_no
def vx_atS (own : String) (ic : Nat) (X : String) (names : List String) : List Cond := (Bundle.ownAtoms own ic X names).filter vx_no
/-- a word that the tables alone decide, or a good one -/
def vx_ot (w : Cond) : Bool := w.onTables || goodWord w
theorem vx_ot_at {args a' : Array Value} {s U : State} {w : Cond} (hW : s.WarmedH U.vm) (hvm : s.vm = U.vm) (hg : vx_ot w = true) (h : w.before args s = true) : w.before a' U = true := by
  simp only [vx_ot, Bool.or_eq_true] at hg
  rcases hg with hg | hg
  · exact va_tabs hg hvm h
  · exact word_at hW (good_of_word hg) h
/-- a list's words: the good ones out of the method's own list, the others by premises of their own -/
theorem vx_hat {args : Array Value} {s : State} {L B : List Cond} (h1 : ∀ w ∈ L.filter goodWord, w.before args s = true) (h2 : ∀ w ∈ L.filter (fun w => !goodWord w), w ∈ B) (h3 : ∀ w ∈ B, w.before args s = true) : ∀ w ∈ L, w.before args s = true := by
  intro w hw
  by_cases g : goodWord w = true
  · exact h1 w (List.mem_filter.mpr ⟨hw, g⟩)
  · refine h3 w (h2 w (List.mem_filter.mpr ⟨hw, ?_⟩))
    show (!goodWord w) = true
    cases hgw : goodWord w
    · rfl
    · exact absurd hgw g
theorem vx_c {args : Array Value} {s : State} {w : Cond} {B : List Cond} (h : w.before args s = true) (t : ∀ w ∈ B, w.before args s = true) : ∀ w' ∈ w :: B, w'.before args s = true := fun w' h' => (List.mem_cons.mp h').elim (fun e => by rw [e]; exact h) (t w')
theorem vx_n {args : Array Value} {s : State} : ∀ w ∈ ([] : List Cond), w.before args s = true := fun _ h => nomatch h
theorem vx_own {args : Array Value} {s : State} {L : List Cond} (h1 : ∀ w ∈ L.filter vx_no, w.before args s = true)
    (hU : (Cond.isRef (.static Bundle.tN "UNASSIGNED_STACK" Bundle.steD)).before args s = true) (hN : (Cond.isRef (.static Bundle.tN "SUPPRESSED_SENTINEL" Bundle.listD)).before args s = true)
    (lU : (Cond.laysStatic Bundle.tN "UNASSIGNED_STACK" Bundle.steD).before args s = true) (lN : (Cond.laysStatic Bundle.tN "SUPPRESSED_SENTINEL" Bundle.listD).before args s = true) : ∀ w ∈ L, w.before args s = true := by
  intro w hw
  by_cases e1 : w = .isRef (.static Bundle.tN "UNASSIGNED_STACK" Bundle.steD)
  · rw [e1]; exact hU
  · by_cases e2 : w = .isRef (.static Bundle.tN "SUPPRESSED_SENTINEL" Bundle.listD)
    · rw [e2]; exact hN
    · by_cases e3 : w = .laysStatic Bundle.tN "UNASSIGNED_STACK" Bundle.steD
      · rw [e3]; exact lU
      · by_cases e4 : w = .laysStatic Bundle.tN "SUPPRESSED_SENTINEL" Bundle.listD
        · rw [e4]; exact lN
        · exact h1 w (List.mem_filter.mpr ⟨hw, by unfold vx_no; rw [decide_eq_true e1, decide_eq_true e2, decide_eq_true e3, decide_eq_true e4]; rfl⟩)
/-- where a static field lies, its class's statics cell in H -/
def vx_L (C n d : String) (A : Nat → Prop) (U : State) (H : Heap) : Prop := ∃ (c : ClassId) (k : Class) (i : Nat) (f : Field) (a : Nat) (cell : Cell), U.vm.findClass C = some c ∧ U.fieldFound? C n d = some (c, k, i, f) ∧ f.isStatic = true ∧ k.statics = some a ∧ H[a]? = some cell ∧ cell.vm.isStatics = true ∧ cell.cls = c ∧ f.slot < cell.slots.size ∧ k.staticTypes[f.slot]? = some f.type ∧ ¬ A a
theorem vx_L.moved {C n d : String} {A : Nat → Prop} {u U : State} {H : Heap} (hvm : u.vm.Alike U.vm) (h : vx_L C n d A u H) : vx_L C n d A U H := by
  obtain ⟨c, k, i, f, a, cell, h1, h2, h3, h4, h5, h6, h7, h8, h9, h10⟩ := h
  obtain ⟨k', hi', he⟩ := State.fieldFound?_setVm hvm h2
  exact ⟨c, k', i, f, a, cell, by rw [hvm.findClass]; exact h1, hi', h3, by rw [he]; exact h4, h5, h6, h7, h8, by rw [he]; exact h9, h10⟩
theorem vx_L.kept {C n d : String} {A : Nat → Prop} {U : State} {H H1 : Heap} (h : vx_L C n d A U H) (hq : ∀ a : Nat, a < H.size → ¬ A a → H1[a]? = H[a]?) : vx_L C n d A U H1 := by
  obtain ⟨c, k, i, f, a, cell, h1, h2, h3, h4, h5, h6, h7, h8, h9, h10⟩ := h
  exact ⟨c, k, i, f, a, cell, h1, h2, h3, h4, by rw [hq a (Array.getElem?_eq_some_iff.mp h5).1 h10]; exact h5, h6, h7, h8, h9, h10⟩
theorem vx_L.narrow {C n d : String} {A B : Nat → Prop} {U : State} {H : Heap} (h : vx_L C n d A U H) (hAB : ∀ q, B q → A q) : vx_L C n d B U H := by
  obtain ⟨c, k, i, f, a, cell, h1, h2, h3, h4, h5, h6, h7, h8, h9, h10⟩ := h
  exact ⟨c, k, i, f, a, cell, h1, h2, h3, h4, h5, h6, h7, h8, h9, fun z => h10 (hAB _ z)⟩
theorem vx_L.word {C n d : String} {A : Nat → Prop} {s : State} {args : Array Value} (h : vx_L C n d A s s.heap) : (Cond.laysStatic C n d).before args s = true := by
  obtain ⟨c, k, i, f, a, cell, h1, h2, h3, h4, h5, h6, h7, h8, h9, -⟩ := h
  show (Cond.laysStatic C n d).holds args s none s [] = true
  exact Cond.laysStatic_of h1 h2 h3 h4 h5 h6 h7 h8 h9
/-- .. and what it holds: null or some reference -/
def vx_Zq (C n d : String) (A : Nat → Prop) (U : State) (H : Heap) : Prop := va_Zq C n d A U H ∧ vx_L C n d A U H
theorem vx_Zq.moved {C n d : String} {A : Nat → Prop} {u U : State} {H : Heap} (hvm : u.vm.Alike U.vm) (h : vx_Zq C n d A u H) : vx_Zq C n d A U H := ⟨va_Zq.moved hvm h.1, vx_L.moved hvm h.2⟩
theorem vx_Zq.kept {C n d : String} {A : Nat → Prop} {U : State} {H H1 : Heap} (h : vx_Zq C n d A U H) (hq : ∀ a : Nat, a < H.size → ¬ A a → H1[a]? = H[a]?) : vx_Zq C n d A U H1 := ⟨va_Zq.kept h.1 hq, vx_L.kept h.2 hq⟩
theorem vx_Zq.narrow {C n d : String} {A B : Nat → Prop} {U : State} {H : Heap} (h : vx_Zq C n d A U H) (hAB : ∀ q, B q → A q) : vx_Zq C n d B U H := ⟨va_Zq.narrow h.1 hAB, vx_L.narrow h.2 hAB⟩
theorem vx_Zqof {args : Array Value} {s : State} {C n d : String} {A : Nat → Prop} (hl : (Cond.laysStatic C n d).before args s = true) (hini : (Cond.initialized C).before args s = true) (h : (Cond.isRef (.static C n d)).before args s = true) (hA : ∀ a : Nat, a < s.heap.size → ¬ A a) : vx_Zq C n d A s s.heap := by
  refine ⟨va_Zqof hl hini h hA, ?_⟩
  obtain ⟨c, k, i, f, a, cell, h1, h2, h3, h4, h5, h6, h7, h8, h9⟩ := Cond.laysStatic_spec hl
  exact ⟨c, k, i, f, a, cell, h1, h2, h3, h4, h5, h6, h7, h8, h9, hA a (Array.getElem?_eq_some_iff.mp h5).1⟩
theorem vx_isRef {C n d : String} {v : Value} {A : Nat → Prop} {s : State} {args : Array Value} (h : va_Z C n d v A s s.heap) (hv : v.isRef = true) : (Cond.isRef (.static C n d)).before args s = true := by
  obtain ⟨cf, kf, fi, f, a, cell, h1, h2, h3, h4, h5, h6, h7, -⟩ := h
  have he : (Term.static C n d).eval args s none [] s = some v := by
    simp [Term.eval, State.fieldNamed?, h1, h2, h4, h5, h6, h7]
  simp only [Cond.before, Cond.holds, Cond.value, he]
  cases v <;> simp_all [Value.isRef]
theorem vx_isRefq {C n d : String} {A : Nat → Prop} {s : State} {args : Array Value} (h : va_Zq C n d A s s.heap) : (Cond.isRef (.static C n d)).before args s = true := by
  rcases h with h | ⟨t, h⟩
  · exact vx_isRef h rfl
  · exact vx_isRef h rfl
/-- the same frame, seen from here: as if the method were called anew in this heap -/
theorem vx_rebase {T : State} (X : Stand p l e R s m args below meth c T locs cells slots) {R' : Room} (hf : R'.frames ≤ R.frames) (hl : R'.locals ≤ R.locals) (hc : cells + R'.cells ≤ R.cells) (hs : slots + R'.slots ≤ R.slots) :
    Stand p l e R' ((T.setVm s.vm).setFrames (.invoking m args :: below)) m args below meth c T [] 0 0 := by
  have htop : (T.setVm s.vm).topJava?.isSome := X.here.top
  have hF : ((T.setVm s.vm).setFrames (.invoking m args :: below)).frames = .invoking m args :: below := State.frames_setFrames _ (State.cur_lt_of_top htop)
  obtain ⟨g₀, hg0⟩ := Option.isSome_iff_exists.mp htop
  obtain ⟨r, hr⟩ := State.topJava?_eq_some.mp hg0
  have hl9 : e.platform.stackLimits (T.setVm s.vm).me = e.platform.stackLimits s.me := X.limits
  have hb9 : (T.setVm s.vm).me.stackBytes = s.me.stackBytes := X.bytes
  refine ⟨X.admits, X.cas, X.clock, hF, ?_, X.hears, X.method, X.code, X.here, X.tail, X.warmed, ?_, ?_, ?_⟩
  · have h := X.room
    have hU : ((T.setVm s.vm).setFrames (.invoking m args :: below)).localsInUse = s.localsInUse := by
      rw [State.localsInUse_invoking hF (meth := meth) (c := c) X.method X.code, State.localsInUse_invoking X.frames X.method X.code]
    simp only [State.hasRoom, Bool.and_eq_true, decide_eq_true_eq] at h ⊢
    obtain ⟨⟨⟨⟨h1, h2, h3, h4, h5, h6⟩, h7⟩, h8⟩, h9⟩ := h
    rw [X.frames, List.length_cons] at h2 h3
    have q1 := X.heapSize
    have q2 := X.used
    simp only [hF, hU, List.length_cons, State.stackLimits_setFrames, State.stackBytes_setFrames, hl9, hb9]
    refine ⟨⟨⟨⟨by omega, by omega, by omega, by omega, by omega, h6⟩, ?_⟩, ?_⟩, X.book⟩
    · show T.heap.size + R'.cells ≤ e.platform.maxCells
      omega
    · show T.slotsUsed + R'.slots ≤ e.platform.maxSlots
      omega
  · rw [State.stackLimits_setFrames]; rfl
  · rw [State.stackBytes_setFrames]; rfl
  · refine ⟨?_, Nat.le_refl _, Nat.le_refl _, ?_, ?_, fun a c9 h9 => ⟨c9, h9, rfl, rfl, fun _ _ => rfl⟩⟩
    · obtain ⟨t, ht, -⟩ := State.frames_cons hr
      show T.setVm s.vm = { ((T.setVm s.vm).setFrames (.invoking m args :: below)).setFrames (T.setVm s.vm).frames with heap := T.heap, slotsUsed := T.slotsUsed }
      rw [State.setFrames_setFrames, State.setFrames_self ht]
      rfl
    · show T.slotsUsed = T.slotsUsed + ((T.heap.toList.drop T.heap.size).map (·.slots.size)).sum
      rw [List.drop_eq_nil_of_le (Nat.le_of_eq Array.length_toList)]
      rfl
    · show ((T.heap.toList.drop T.heap.size).map (·.slots.size)).sum ≤ 0
      rw [List.drop_eq_nil_of_le (Nat.le_of_eq Array.length_toList)]
      exact Nat.le_refl _
/-- 'throw new E()': new; dup; invokespecial; athrow -/
theorem vx_throw0 {cc : ByteArray} {pc : Nat} (hexec : p.tables.exec = Jvm.exec) (hb : c.code = cc) (hl : l.stackTraces = false) {own cls : String} {names : List String} {ik ic mc ms : Nat} {A : Nat → Prop}
    (hown : s.vm.findClass own = some m.cls) (hcls : Bundle.fit cls = true) (hnames : ∀ n ∈ names, Bundle.fit n = true)
    (hk : (Cond.classLink own ik cls).before args s = true) (hini : (Cond.initialized cls).before args s = true) (hat : ∀ w ∈ vx_at0 own ic cls names, w.before args s = true)
    (hgood : ∀ w ∈ Cond.classLink own ik cls :: Cond.initialized cls :: vx_at0 own ic cls names, vx_ot w = true)
    (hU : vx_Zq Bundle.tN "UNASSIGNED_STACK" Bundle.steD A s s.heap) (hN : vx_Zq Bundle.tN "SUPPRESSED_SENTINEL" Bundle.listD A s s.heap) (hS : va_S A s.heap H locs) (hsize : ls.size = c.maxLocals)
    (d0 : decode cc pc = .ok (.new ik, 3)) (d3 : decode cc (pc + 3) = .ok (.dup, 1)) (d4 : decode cc (pc + 4) = .ok (.invokespecial ic, 3)) (d7 : decode cc (pc + 7) = .ok (.athrow, 1))
    (hout : ∀ x ∈ c.exceptionTable.toList, covers x (pc + 7) = false)
    (hRframes : names.length + 3 < R.frames) (hRlocals : (rest.map fun v => v.category).sum + (13 * (names.length + 1) + 42) ≤ R.locals) (hRcells : cells + 1 ≤ R.cells) (hRslots : slots + 6 ≤ R.slots) (hlocks : meth.locks = false)
    (hx : ∀ t : State, s.vm.Alike t.vm → H.size ≤ t.heap.size → (∀ q : Nat, q < H.size → t.heap[q]? = H[q]?) → XC cls s t)
    (hf : ∀ z ∈ locs, free z.base) (hc : cells + 1 ≤ mc) (hs : slots + 6 ≤ ms) :
    W p l e R s m args below meth c H locs cells slots (vx_MQ below Qc XC args s mc ms free) (F0 m pc ls rest) := by
  intro T hT X
  have htr : e.platform.stackTraces = false := (show e.platform.stackTraces = l.stackTraces by rw [X.admits.platform]).trans hl
  have Y := vx_rebase X (R' := { frames := R.frames, locals := R.locals, cells := 1, slots := 6 }) (Nat.le_refl _) (Nat.le_refl _) hRcells hRslots
  obtain ⟨s', hA⟩ : ∃ z, z = (T.setVm s.vm).setFrames (.invoking m args :: below) := ⟨_, rfl⟩
  rw [← hA] at Y
  have hvm : s'.vm = s.vm := by rw [hA]; rfl
  have hhp : s'.heap = H := by rw [hA]; exact hT
  have hW0 : s.WarmedH s'.vm := by rw [hvm]; exact State.WarmedH.refl s
  have hat' : ∀ w ∈ vx_at0 own ic cls names, w.before args s' = true := fun w hw => vx_ot_at hW0 hvm.symm (hgood w (List.mem_cons_of_mem _ (List.mem_cons_of_mem _ hw))) (hat w hw)
  have hk' : (Cond.classLink own ik cls).before args s' = true := vx_ot_at hW0 hvm.symm (hgood _ List.mem_cons_self) hk
  have hini' : (Cond.initialized cls).before args s' = true := vx_ot_at hW0 hvm.symm (hgood _ (List.mem_cons_of_mem _ List.mem_cons_self)) hini
  have hU' : vx_Zq Bundle.tN "UNASSIGNED_STACK" Bundle.steD A s' s'.heap := by rw [hhp]; exact vx_Zq.moved hW0.alike (hU.kept hS.2.1)
  have hN' : vx_Zq Bundle.tN "SUPPRESSED_SENTINEL" Bundle.listD A s' s'.heap := by rw [hhp]; exact vx_Zq.moved hW0.alike (hN.kept hS.2.1)
  have h : ∀ w ∈ Bundle.ownAtoms0 own ic cls names, w.before args s' = true := vx_own hat' (vx_isRefq hU'.1) (vx_isRefq hN'.1) hU'.2.word hN'.2.word
  have hown' : s'.vm.findClass own = some m.cls := by rw [hvm]; exact hown
  have hins : (Cond.instantiable cls 6).before args s' = true := h _ (by simp [Bundle.ownAtoms0])
  obtain ⟨vm₁, cX, kX, hfX, hkX, -, -, X₁, st1⟩ := Y.newCold hexec (own := own) (C := cls) (index := ik) (n := 6) hown' hk' hins hini'
    (g := F0 m pc ls rest) rfl (by rw [hb]; exact d0) (Nat.le_refl _) (Nat.le_refl _)
  generalize hT1 : (T.setVm vm₁).pushCell { cls := cX, slots := kX.instanceTypes.map defaultValue, vm := .none } = T1 at X₁ st1
  have hcat : (Value.ref T.heap.size).category = 1 := rfl
  have hcellA : T1.heap[T.heap.size]? = some (freshCell cX kX) := by rw [← hT1]; exact State.heap_pushCell_size _ _
  have d3' : decode c.code (pc + 3) = .ok (.dup, 1) := by rw [hb]; exact d3
  obtain ⟨U, hsteps, hrun, hend, hW, hsame, ce, hce, hO⟩ := X₁.ctorThrow0 hexec htr (own := own) (cls := cls) (names := names) (ic := ic) hown' hcls hnames h (fun x hx => nomatch hx) hfX hkX hcellA (by rw [hhp, hT]; exact Nat.le_refl _)
    (g := { method := m, pc := pc + 4, locals := ls, stack := .ref T.heap.size :: .ref T.heap.size :: rest, locked := none }) rfl hsize rfl rfl (rest := rest) rfl
    (by rw [hb]; exact d4) (by rw [hb]; exact d7) hout hRframes (by simp only [List.map_cons, List.sum_cons, hcat]; omega) hlocks
  obtain ⟨f1, f2⟩ := vx_frame hsame
  rw [hhp] at f1 f2
  have hWs : s.WarmedH U.vm := State.WarmedH.trans hW0 hW
  have hcl : s.vm.findClass cls = some ce.cls := by
    have h9 := hO.cls
    rw [hvm] at h9
    exact h9
  have hall : s.sameButNew ({ U with vm := s.vm } : State) locs mc ms := by
    subst hA
    obtain ⟨e1, e2⟩ := hsame
    rw [State.setFrames_setFrames] at e1
    have h2 : (T.setVm s.vm).sameButNew ({ U with vm := s.vm } : State) [] (0 + 1) (0 + 6) := ⟨e1, e2⟩
    have h3 := X.same.trans h2
    rw [List.append_nil] at h3
    exact h3.mono hc hs
  refine ⟨U, ?_, .threw T.heap.size, hrun, hend, Or.inr ⟨T.heap.size, rfl, cls, ce, locs, hx U hWs.alike f1 (fun q hq => f2 q hq (fun z hz => nomatch hz)), hce, hO.vm, hcl, hWs, hall, hf⟩⟩
  refine st1 _ ?_
  show Steps p.tables e below (T1.setTop { method := m, pc := pc + 3, locals := ls, stack := .ref T.heap.size :: rest, locked := none }) _
  jvm_step X₁.here [X₁.here.top, hexec, d3', Value.category]
  exact hsteps
/-- 'throw new E("text")': new; dup; ldc; invokespecial; athrow -/
theorem vx_throwS {cc : ByteArray} {pc : Nat} (hexec : p.tables.exec = Jvm.exec) (hb : c.code = cc) (hl : l.stackTraces = false) {own cls text : String} {names : List String} {ik is ic mc ms sa : Nat} {A : Nat → Prop}
    (hown : s.vm.findClass own = some m.cls) (hcls : Bundle.fit cls = true) (hnames : ∀ n ∈ names, Bundle.fit n = true)
    (hk : (Cond.classLink own ik cls).before args s = true) (hini : (Cond.initialized cls).before args s = true) (hstr : vk_R own is text sa s) (hat : ∀ w ∈ vx_atS own ic cls names, w.before args s = true)
    (hgood : ∀ w ∈ Cond.classLink own ik cls :: Cond.initialized cls :: vx_atS own ic cls names, vx_ot w = true)
    (hU : vx_Zq Bundle.tN "UNASSIGNED_STACK" Bundle.steD A s s.heap) (hN : vx_Zq Bundle.tN "SUPPRESSED_SENTINEL" Bundle.listD A s s.heap) (hS : va_S A s.heap H locs) (hsize : ls.size = c.maxLocals)
    (d0 : decode cc pc = .ok (.new ik, 3)) (d3 : decode cc (pc + 3) = .ok (.dup, 1)) (d4 : decode cc (pc + 4) = .ok (.ldc is, 2)) (d6 : decode cc (pc + 6) = .ok (.invokespecial ic, 3)) (d9 : decode cc (pc + 9) = .ok (.athrow, 1))
    (hout : ∀ x ∈ c.exceptionTable.toList, covers x (pc + 9) = false)
    (hRframes : names.length + 3 < R.frames) (hRlocals : (rest.map fun v => v.category).sum + (13 * (names.length + 1) + 43) ≤ R.locals) (hRcells : cells + 1 ≤ R.cells) (hRslots : slots + 6 ≤ R.slots) (hlocks : meth.locks = false)
    (hx : ∀ t : State, s.vm.Alike t.vm → H.size ≤ t.heap.size → (∀ q : Nat, q < H.size → t.heap[q]? = H[q]?) → XC cls s t)
    (hf : ∀ z ∈ locs, free z.base) (hc : cells + 1 ≤ mc) (hs : slots + 6 ≤ ms) :
    W p l e R s m args below meth c H locs cells slots (vx_MQ below Qc XC args s mc ms free) (F0 m pc ls rest) := by
  intro T hT X
  have htr : e.platform.stackTraces = false := (show e.platform.stackTraces = l.stackTraces by rw [X.admits.platform]).trans hl
  have Y := vx_rebase X (R' := { frames := R.frames, locals := R.locals, cells := 1, slots := 6 }) (Nat.le_refl _) (Nat.le_refl _) hRcells hRslots
  obtain ⟨s', hA⟩ : ∃ z, z = (T.setVm s.vm).setFrames (.invoking m args :: below) := ⟨_, rfl⟩
  rw [← hA] at Y
  have hvm : s'.vm = s.vm := by rw [hA]; rfl
  have hhp : s'.heap = H := by rw [hA]; exact hT
  have hW0 : s.WarmedH s'.vm := by rw [hvm]; exact State.WarmedH.refl s
  have hat' : ∀ w ∈ vx_atS own ic cls names, w.before args s' = true := fun w hw => vx_ot_at hW0 hvm.symm (hgood w (List.mem_cons_of_mem _ (List.mem_cons_of_mem _ hw))) (hat w hw)
  have hk' : (Cond.classLink own ik cls).before args s' = true := vx_ot_at hW0 hvm.symm (hgood _ List.mem_cons_self) hk
  have hini' : (Cond.initialized cls).before args s' = true := vx_ot_at hW0 hvm.symm (hgood _ (List.mem_cons_of_mem _ List.mem_cons_self)) hini
  have hU' : vx_Zq Bundle.tN "UNASSIGNED_STACK" Bundle.steD A s' s'.heap := by rw [hhp]; exact vx_Zq.moved hW0.alike (hU.kept hS.2.1)
  have hN' : vx_Zq Bundle.tN "SUPPRESSED_SENTINEL" Bundle.listD A s' s'.heap := by rw [hhp]; exact vx_Zq.moved hW0.alike (hN.kept hS.2.1)
  have h : ∀ w ∈ Bundle.ownAtoms own ic cls names, w.before args s' = true := vx_own hat' (vx_isRefq hU'.1) (vx_isRefq hN'.1) hU'.2.word hN'.2.word
  have hown' : s'.vm.findClass own = some m.cls := by rw [hvm]; exact hown
  have hins : (Cond.instantiable cls 6).before args s' = true := h _ (by simp [Bundle.ownAtoms])
  obtain ⟨vm₁, cX, kX, hfX, hkX, -, -, X₁, st1⟩ := Y.newCold hexec (own := own) (C := cls) (index := ik) (n := 6) hown' hk' hins hini'
    (g := F0 m pc ls rest) rfl (by rw [hb]; exact d0) (Nat.le_refl _) (Nat.le_refl _)
  generalize hT1 : (T.setVm vm₁).pushCell { cls := cX, slots := kX.instanceTypes.map defaultValue, vm := .none } = T1 at X₁ st1
  have hcat : (Value.ref T.heap.size).category = 1 := rfl
  have hcellA : T1.heap[T.heap.size]? = some (freshCell cX kX) := by rw [← hT1]; exact State.heap_pushCell_size _ _
  have d3' : decode c.code (pc + 3) = .ok (.dup, 1) := by rw [hb]; exact d3
  have d4' : decode c.code (pc + 4) = .ok (.ldc is, 2) := by rw [hb]; exact d4
  have hstr' : vk_R own is text sa s' := vk_R.warm hW0 hstr
  obtain ⟨U, hsteps, hrun, hend, hW, hsame, ce, hce, hO⟩ := X₁.ctorThrowS hexec htr (own := own) (cls := cls) (names := names) (ic := ic) hown' hcls hnames h (fun x hx => nomatch hx) hfX hkX hcellA (by rw [hhp, hT]; exact Nat.le_refl _) (msg := .ref sa) rfl
    (g := { method := m, pc := pc + 6, locals := ls, stack := .ref sa :: .ref T.heap.size :: .ref T.heap.size :: rest, locked := none }) rfl hsize rfl rfl (rest := rest) rfl
    (by rw [hb]; exact d6) (by rw [hb]; exact d9) hout hRframes (by simp only [List.map_cons, List.sum_cons, hcat]; omega) hlocks
  obtain ⟨f1, f2⟩ := vx_frame hsame
  rw [hhp] at f1 f2
  have hWs : s.WarmedH U.vm := State.WarmedH.trans hW0 hW
  have hcl : s.vm.findClass cls = some ce.cls := by
    have h9 := hO.cls
    rw [hvm] at h9
    exact h9
  have hall : s.sameButNew ({ U with vm := s.vm } : State) locs mc ms := by
    subst hA
    obtain ⟨e1, e2⟩ := hsame
    rw [State.setFrames_setFrames] at e1
    have h2 : (T.setVm s.vm).sameButNew ({ U with vm := s.vm } : State) [] (0 + 1) (0 + 6) := ⟨e1, e2⟩
    have h3 := X.same.trans h2
    rw [List.append_nil] at h3
    exact h3.mono hc hs
  refine ⟨U, ?_, .threw T.heap.size, hrun, hend, Or.inr ⟨T.heap.size, rfl, cls, ce, locs, hx U hWs.alike f1 (fun q hq => f2 q hq (fun z hz => nomatch hz)), hce, hO.vm, hcl, hWs, hall, hf⟩⟩
  refine st1 _ ?_
  show Steps p.tables e below (T1.setTop { method := m, pc := pc + 3, locals := ls, stack := .ref T.heap.size :: rest, locked := none }) _
  jvm_step X₁.here [X₁.here.top, hexec, d3', Value.category]
  exact X₁.ldcString hexec (own := own) (text := text) (index := is) (a := sa) hown' hstr'.1 hstr'.2
    (g := { method := m, pc := pc + 4, locals := ls, stack := .ref T.heap.size :: .ref T.heap.size :: rest, locked := none }) rfl d4' _ hsteps
/-- 'throw new E("text")', the text by a wide index -/
theorem vx_throwSW {cc : ByteArray} {pc : Nat} (hexec : p.tables.exec = Jvm.exec) (hb : c.code = cc) (hl : l.stackTraces = false) {own cls text : String} {names : List String} {ik is ic mc ms sa : Nat} {A : Nat → Prop}
    (hown : s.vm.findClass own = some m.cls) (hcls : Bundle.fit cls = true) (hnames : ∀ n ∈ names, Bundle.fit n = true)
    (hk : (Cond.classLink own ik cls).before args s = true) (hini : (Cond.initialized cls).before args s = true) (hstr : vk_R own is text sa s) (hat : ∀ w ∈ vx_atS own ic cls names, w.before args s = true)
    (hgood : ∀ w ∈ Cond.classLink own ik cls :: Cond.initialized cls :: vx_atS own ic cls names, vx_ot w = true)
    (hU : vx_Zq Bundle.tN "UNASSIGNED_STACK" Bundle.steD A s s.heap) (hN : vx_Zq Bundle.tN "SUPPRESSED_SENTINEL" Bundle.listD A s s.heap) (hS : va_S A s.heap H locs) (hsize : ls.size = c.maxLocals)
    (d0 : decode cc pc = .ok (.new ik, 3)) (d3 : decode cc (pc + 3) = .ok (.dup, 1)) (d4 : decode cc (pc + 4) = .ok (.ldc_w is, 3)) (d7 : decode cc (pc + 7) = .ok (.invokespecial ic, 3)) (d10 : decode cc (pc + 10) = .ok (.athrow, 1))
    (hout : ∀ x ∈ c.exceptionTable.toList, covers x (pc + 10) = false)
    (hRframes : names.length + 3 < R.frames) (hRlocals : (rest.map fun v => v.category).sum + (13 * (names.length + 1) + 43) ≤ R.locals) (hRcells : cells + 1 ≤ R.cells) (hRslots : slots + 6 ≤ R.slots) (hlocks : meth.locks = false)
    (hx : ∀ t : State, s.vm.Alike t.vm → H.size ≤ t.heap.size → (∀ q : Nat, q < H.size → t.heap[q]? = H[q]?) → XC cls s t)
    (hf : ∀ z ∈ locs, free z.base) (hc : cells + 1 ≤ mc) (hs : slots + 6 ≤ ms) :
    W p l e R s m args below meth c H locs cells slots (vx_MQ below Qc XC args s mc ms free) (F0 m pc ls rest) := by
  intro T hT X
  have htr : e.platform.stackTraces = false := (show e.platform.stackTraces = l.stackTraces by rw [X.admits.platform]).trans hl
  have Y := vx_rebase X (R' := { frames := R.frames, locals := R.locals, cells := 1, slots := 6 }) (Nat.le_refl _) (Nat.le_refl _) hRcells hRslots
  obtain ⟨s', hA⟩ : ∃ z, z = (T.setVm s.vm).setFrames (.invoking m args :: below) := ⟨_, rfl⟩
  rw [← hA] at Y
  have hvm : s'.vm = s.vm := by rw [hA]; rfl
  have hhp : s'.heap = H := by rw [hA]; exact hT
  have hW0 : s.WarmedH s'.vm := by rw [hvm]; exact State.WarmedH.refl s
  have hat' : ∀ w ∈ vx_atS own ic cls names, w.before args s' = true := fun w hw => vx_ot_at hW0 hvm.symm (hgood w (List.mem_cons_of_mem _ (List.mem_cons_of_mem _ hw))) (hat w hw)
  have hk' : (Cond.classLink own ik cls).before args s' = true := vx_ot_at hW0 hvm.symm (hgood _ List.mem_cons_self) hk
  have hini' : (Cond.initialized cls).before args s' = true := vx_ot_at hW0 hvm.symm (hgood _ (List.mem_cons_of_mem _ List.mem_cons_self)) hini
  have hU' : vx_Zq Bundle.tN "UNASSIGNED_STACK" Bundle.steD A s' s'.heap := by rw [hhp]; exact vx_Zq.moved hW0.alike (hU.kept hS.2.1)
  have hN' : vx_Zq Bundle.tN "SUPPRESSED_SENTINEL" Bundle.listD A s' s'.heap := by rw [hhp]; exact vx_Zq.moved hW0.alike (hN.kept hS.2.1)
  have h : ∀ w ∈ Bundle.ownAtoms own ic cls names, w.before args s' = true := vx_own hat' (vx_isRefq hU'.1) (vx_isRefq hN'.1) hU'.2.word hN'.2.word
  have hown' : s'.vm.findClass own = some m.cls := by rw [hvm]; exact hown
  have hins : (Cond.instantiable cls 6).before args s' = true := h _ (by simp [Bundle.ownAtoms])
  obtain ⟨vm₁, cX, kX, hfX, hkX, -, -, X₁, st1⟩ := Y.newCold hexec (own := own) (C := cls) (index := ik) (n := 6) hown' hk' hins hini'
    (g := F0 m pc ls rest) rfl (by rw [hb]; exact d0) (Nat.le_refl _) (Nat.le_refl _)
  generalize hT1 : (T.setVm vm₁).pushCell { cls := cX, slots := kX.instanceTypes.map defaultValue, vm := .none } = T1 at X₁ st1
  have hcat : (Value.ref T.heap.size).category = 1 := rfl
  have hcellA : T1.heap[T.heap.size]? = some (freshCell cX kX) := by rw [← hT1]; exact State.heap_pushCell_size _ _
  have d3' : decode c.code (pc + 3) = .ok (.dup, 1) := by rw [hb]; exact d3
  have d4' : decode c.code (pc + 4) = .ok (.ldc_w is, 3) := by rw [hb]; exact d4
  have hstr' : vk_R own is text sa s' := vk_R.warm hW0 hstr
  obtain ⟨U, hsteps, hrun, hend, hW, hsame, ce, hce, hO⟩ := X₁.ctorThrowS hexec htr (own := own) (cls := cls) (names := names) (ic := ic) hown' hcls hnames h (fun x hx => nomatch hx) hfX hkX hcellA (by rw [hhp, hT]; exact Nat.le_refl _) (msg := .ref sa) rfl
    (g := { method := m, pc := pc + 7, locals := ls, stack := .ref sa :: .ref T.heap.size :: .ref T.heap.size :: rest, locked := none }) rfl hsize rfl rfl (rest := rest) rfl
    (by rw [hb]; exact d7) (by rw [hb]; exact d10) hout hRframes (by simp only [List.map_cons, List.sum_cons, hcat]; omega) hlocks
  obtain ⟨f1, f2⟩ := vx_frame hsame
  rw [hhp] at f1 f2
  have hWs : s.WarmedH U.vm := State.WarmedH.trans hW0 hW
  have hcl : s.vm.findClass cls = some ce.cls := by
    have h9 := hO.cls
    rw [hvm] at h9
    exact h9
  have hall : s.sameButNew ({ U with vm := s.vm } : State) locs mc ms := by
    subst hA
    obtain ⟨e1, e2⟩ := hsame
    rw [State.setFrames_setFrames] at e1
    have h2 : (T.setVm s.vm).sameButNew ({ U with vm := s.vm } : State) [] (0 + 1) (0 + 6) := ⟨e1, e2⟩
    have h3 := X.same.trans h2
    rw [List.append_nil] at h3
    exact h3.mono hc hs
  refine ⟨U, ?_, .threw T.heap.size, hrun, hend, Or.inr ⟨T.heap.size, rfl, cls, ce, locs, hx U hWs.alike f1 (fun q hq => f2 q hq (fun z hz => nomatch hz)), hce, hO.vm, hcl, hWs, hall, hf⟩⟩
  refine st1 _ ?_
  show Steps p.tables e below (T1.setTop { method := m, pc := pc + 3, locals := ls, stack := .ref T.heap.size :: rest, locked := none }) _
  jvm_step X₁.here [X₁.here.top, hexec, d3', Value.category]
  exact X₁.ldcStringW hexec (own := own) (text := text) (index := is) (a := sa) hown' hstr'.1 hstr'.2
    (g := { method := m, pc := pc + 4, locals := ls, stack := .ref T.heap.size :: .ref T.heap.size :: rest, locked := none }) rfl d4' _ hsteps
end Ends
section Bodies
variable {l : Launch}
theorem vx_ofW {y : MethodName} {ws ws' : List Cond} {rm : Room} {Pc : Array Value → State → Prop} {Qc : Array Value → State → Outcome → State → Prop} {XC : String → State → State → Prop} {mc ms : Nat} {free : Addr → Prop} {cc : ByteArray} {maxL : Nat} {ret : Option FieldType}
    (hy : plainName y.cls = true) (hw : ws = Cond.code y cc maxL ret :: ws')
    (body : ∀ p e s m args below meth c s₁, BodyLoose p l y (headSpec ws rm) cc maxL ret e s m args below meth c s₁ → c.maxLocals = maxL → (∀ x ∈ c.exceptionTable.toList, False) → Pc args s →
      W p l e (headSpec ws rm).room s m args below meth c s.heap [] 0 0 (vx_MQ below Qc XC args s mc ms free) (entryFrame m args maxL)) : vx_Met l y ws rm Pc Qc XC mc ms free := by
  refine MetFree.of_bodyS (code := cc) (maxLocals := maxL) (ret := ret) hy ?_ ?_
  · intro args s m h hn
    obtain ⟨meth, c, h1, h2, h3, h4, h5, h6, -, -⟩ := Cond.code_spec hn (atoms_spec (ws := ws) h _ (by rw [hw]; exact List.mem_cons_self))
    exact ⟨meth, c, h1, h2, h3, h4, h5, h6⟩
  · intro p e s m args below meth c s₁ B hml hP _
    have hh0 : s₁.heap = s.heap := by rw [B.state]; rfl
    have ht : ∀ x ∈ c.exceptionTable.toList, False := by
      obtain ⟨meth9, c9, h1, h2, -, -, -, -, h7, -⟩ := Cond.code_spec B.named (atoms_spec (ws := ws) B.pre _ (by rw [hw]; exact List.mem_cons_self))
      cases Option.some.inj (h1.symm.trans B.method)
      cases Option.some.inj (h2.symm.trans (Stand.of_body B).code)
      intro x hx
      rw [Array.isEmpty_iff.mp h7] at hx
      cases hx
    obtain ⟨t, a1, o, b1, b2, b3⟩ := body p e s m args below meth c s₁ B hml ht hP s₁ hh0 (Stand.of_body B)
    exact ⟨t, o, a1, b1, b2, b3⟩
/-- the table of a body with handlers -/
theorem vx_table {p : Program} {x y : MethodName} {S : Spec} {cc bytes : ByteArray} {maxL maxL' : Nat} {ret ret' : Option FieldType} {e : Env} {s s₁ : State} {m : MethodId} {args : Array Value} {below : List Frame} {meth : Method} {c : Code} {hh : List (Nat × Nat × Nat × Nat)}
    (B : BodyLoose p l y S cc maxL ret e s m args below meth c s₁) (h : (Cond.codeWith y bytes maxL' ret' hh).before args s = true) : c.exceptionTable.toList = tableOf hh := by
  obtain ⟨m9, meth9, c9, hn9, h1, h2, -, -, h6, -⟩ := Cond.codeWith_spec h
  cases Option.some.inj (hn9.symm.trans B.named)
  cases Option.some.inj (h1.symm.trans B.method)
  cases Option.some.inj (h2.symm.trans (Stand.of_body B).code)
  rw [← h6, table_eq]
end Bodies
end VXA
/-! ===== END ===== -/
/-! ===== BEGIN a static call of a method with an exception table ===== -/
section VXS
variable {p : Program} {l : Launch} {e : Env} {R : Room} {s : State} {m : MethodId} {args : Array Value} {below : List Frame} {meth : Method} {c : Code} {T : State} {H : Heap} {locs : List Loc} {cells slots : Nat}
abbrev vx_CSW (R : Room) (s : State) (args : Array Value) (own : String) (index : Nat) (y : MethodName) (bytes : ByteArray) (maxL : Nat) (ret : Option FieldType) (hh : List (Nat × Nat × Nat × Nat)) (ws : List Cond) (rm : Room) (mc ms n : Nat) : Prop :=
  (rm.cells = mc ∧ rm.slots = ms ∧ rm.frames + 1 ≤ R.frames ∧ 8 + (maxL + 11) + rm.locals ≤ R.locals ∧ (∀ w ∈ ws, ∀ (a' : Array Value) (U : State), s.WarmedH U.vm → w.before a' U = true) ∧ Cond.codeWith y bytes maxL ret hh ∈ ws) ∧
  (Cond.codeWith y bytes maxL ret hh).before args s = true ∧ (Cond.initialized y.cls).before args s = true ∧ (y.cls ≠ "java/lang/invoke/MethodHandle" ∧ y.cls ≠ "java/lang/invoke/VarHandle") ∧
  (∀ sig, parseMethodDescriptor y.desc = some sig → n = sig.parameters.length) ∧ (Cond.methodLink own index y).before args s = true ∧ (Cond.static y).before args s = true
theorem vx_cwSW {own : String} {index maxL mc ms : Nat} {y : MethodName} {bytes : ByteArray} {ret : Option FieldType} {hh : List (Nat × Nat × Nat × Nat)} {Ts ws ws' : List Cond} {rm : Room} (n : Nat) (ht : ∀ w ∈ Ts, w.before args s = true) (hT : GoodIn Ts (va_wsS own index y ws)) (hw : ws = Cond.codeWith y bytes maxL ret hh :: ws') (hrc : rm.cells = mc) (hrs : rm.slots = ms)
    (hd : y.cls ≠ "java/lang/invoke/MethodHandle" ∧ y.cls ≠ "java/lang/invoke/VarHandle" ∧ (parseMethodDescriptor y.desc).map (fun d => d.parameters.length) = some n) (hR : rm.frames + 1 ≤ R.frames ∧ 8 + (maxL + 11) + rm.locals ≤ R.locals) :
    vx_CSW R s args own index y bytes maxL ret hh ws rm mc ms n := by
  have ok : ∀ w ∈ va_wsS own index y ws, w.before args s = true := fun w h => ht w (hT w h).1
  have hG : GoodIn Ts ws := fun w h => hT w (by unfold va_wsS; exact List.mem_append_right _ h)
  have hc : Cond.codeWith y bytes maxL ret hh ∈ ws := by rw [hw]; exact List.mem_cons_self
  refine ⟨⟨hrc, hrs, hR.1, hR.2, pay_in ht hG, hc⟩, ht _ (hG _ hc).1, ok _ (by simp [va_wsS]), ⟨hd.1, hd.2.1⟩, fun sig h => ?_, ok _ (by simp [va_wsS]), ok _ (by simp [va_wsS])⟩
  have h2 := hd.2.2
  rw [h] at h2
  exact (Option.some.inj h2).symm
theorem vx_callSW (X : Stand p l e R s m args below meth c T locs cells slots) (hexec : p.tables.exec = Jvm.exec) {own : String} {index : Nat} {y : MethodName} {bytes : ByteArray} {maxL : Nat} {ret : Option FieldType} {hh : List (Nat × Nat × Nat × Nat)}
    (hown : s.vm.findClass own = some m.cls) (hlink : (Cond.methodLink own index y).before args s = true) (hstat : (Cond.static y).before args s = true) (hinit : (Cond.initialized y.cls).before args s = true)
    (hcode : (Cond.codeWith y bytes maxL ret hh).before args s = true) (hy : y.cls ≠ "java/lang/invoke/MethodHandle" ∧ y.cls ≠ "java/lang/invoke/VarHandle")
    {W9 : Nat} {Pre : Pt → Array Value → Prop} {Post : Pt → Array Value → Option Value → Pt → Prop} (hK : Back l R p e below s args y 3 W9 Pre Post)
    {g : JFrame} (hg : g.method = m) (hsize : g.locals.size = c.maxLocals) {argsL rest : List Value} (hlen : ∀ sig, parseMethodDescriptor y.desc = some sig → argsL.length = sig.parameters.length)
    (hstack : g.stack = argsL.reverse ++ rest) (hW : 2 * g.monitorRoom + (rest.map fun v => v.category).sum ≤ W9) (hdg : decode c.code g.pc = .ok (.invokestatic index, 3))
    (hpre : ∀ vm₁, s.WarmedH vm₁ → Pre ⟨T.setVm vm₁, locs, cells, slots⟩ argsL.toArray) :
    ∃ (v : Option Value) (vm₁ : Vm) (B : Pt), s.WarmedH vm₁ ∧ Stand p l e R s m args below meth c B.U B.locs B.cells B.slots ∧ Post ⟨T.setVm vm₁, locs, cells, slots⟩ argsL.toArray v B ∧
      ∀ target, Steps p.tables e below (B.U.setTop { g with pc := g.pc + 3, stack := v.toList ++ rest }) target → Steps p.tables e below (T.setTop g) target := by
  obtain ⟨mk, methM, cM, hnamed, hmethM, -, -, -, -, -, -, hsigM⟩ := Cond.codeWith_spec hcode
  have hstatic : methM.isStatic = true := Cond.static_spec hnamed hmethM hstat
  obtain ⟨kP, hkP, -⟩ := className_of_methodNamed hnamed
  have hinitP : kP.init = .initialized := Cond.initialized_spec (findClass_of_methodNamed hnamed) hkP hinit
  obtain ⟨vm₁, X₁, hstep₁⟩ := X.invokestatic hexec hown hlink hnamed hmethM hstatic hkP hinitP hy (g := g) hg (argsL := argsL) (rest := rest) (hlen _ hsigM) hstack hdg
  obtain ⟨v, B, X', hpost, hsteps⟩ := hK m meth c ⟨T.setVm vm₁, locs, cells, slots⟩ { g with stack := rest } (.invokestatic index) mk argsL.toArray X₁ hg hsize hdg hW (X₁.named hnamed) (hpre vm₁ X₁.warmed)
  exact ⟨v, vm₁, B, X₁.warmed, X', hpost, fun target h => hstep₁ _ fun acts => by rw [doInvoke_state]; exact hsteps.trans h⟩
theorem vx_runSW {y : MethodName} {bytes cc : ByteArray} {maxL nL mc ms n index : Nat} {ret : Option FieldType} {hh : List (Nat × Nat × Nat × Nat)} {ws : List Cond} {rm : Room} {Pc : Array Value → State → Prop} {Qc : Array Value → State → Outcome → State → Prop} {free : Addr → Prop} {Ts : List Cond} {own : String} {As rest : List Value} {g : JFrame}
    (S : CallFix p m c cc nL s args Ts own) (hM : Met l y ws rm Pc Qc mc ms free) (cw : vx_CSW R s args own index y bytes maxL ret hh ws rm mc ms n) (hp : PreS s H Pc As)
    (hg : g.method = m) (hn : As.length = n) (hsize : g.locals.size = nL) (hstack : g.stack = As.reverse ++ rest) (hW : 2 * g.monitorRoom + (rest.map fun v => v.category).sum ≤ 8) (hdg : decode cc g.pc = .ok (.invokestatic index, 3)) (hf : cells + mc ≤ R.cells ∧ slots + ms ≤ R.slots) :
    va_Run p l e R s m args below meth c H locs cells slots mc ms g rest (Qc As.toArray) (free) := by
  obtain ⟨⟨hrc, hrs, hfr, hlo, hws, hcw⟩, hcode, hini, hy, hlen, hl, hstt⟩ := cw
  have hK : Back l R p e below s args y 3 8 (PreOf R mc ms Pc) (PostOf Qc mc ms free) := va_backW (hh := hh) (bytes := bytes) (maxL := maxL) (ret := ret) hM hp.1 hrc hrs hfr hlo hws hcw (fun a' U hW => word_at hW (Or.inl (by first | rfl | simp [Cond.onTables, Cond.keeps, Cond.steady])) hini)
  obtain ⟨hx, hb, hml, ho, -⟩ := S
  intro T hT X
  obtain ⟨v, vm₁, ⟨U', l2, c2, s2⟩, hW₁, X', ⟨g', mk, t, L, e1, e2, hq, h1, hL, h2, h3⟩, st⟩ := vx_callSW X hx (hh := hh) (bytes := bytes) (maxL := maxL) (ret := ret) ho hl hstt hini hcode hy hK hg (hsize.trans hml.symm) (argsL := As) (rest := rest) (fun sig h => hn.trans (hlen sig h)) hstack hW (by rw [hb]; exact hdg)
    (fun vm₁ hW₁ => ⟨hf.1, hf.2, hp.2 (T.setVm vm₁) hT hW₁⟩)
  dsimp only [Pt.U, Pt.locs, Pt.cells, Pt.slots] at X' e1 e2 h1 h2 h3 st
  subst h1; subst h2; subst h3
  exact ⟨v, (T.setVm vm₁).calling g' mk As.toArray, t, U', L, hT, X', hL, e1, e2, hq, st⟩
/-- not caught here, past rows that name other classes: it goes on to the caller -/
theorem vx_outP {p : Program} {l : Launch} {e : Env} {R : Room} {s : State} {m : MethodId} {args : Array Value} {below : List Frame} {meth : Method} {c : Code} {H : Heap} {locs : List Loc} {cells slots : Nat} {free : Addr → Prop} {ls : Array Slot} {rest : List Value} {Qc : Array Value → State → Outcome → State → Prop} {XC : String → State → State → Prop}
    {pc : Nat} {own E : String} {ce : Cell} {q : Addr} {mc ms : Nat} (hown : s.vm.findClass own = some m.cls) (hlocks : meth.locks = false)
    (hpass : ∀ z ∈ c.exceptionTable.toList, covers z pc = false ∨ (z.catchType ≠ 0 ∧ ∃ nm : String, (Cond.classLink own z.catchType nm).before args s = true ∧ va_Nc E nm s)) (hcell : H[q]? = some ce) (hv : ce.vm = .none) (hcl : s.vm.findClass E = some ce.cls)
    (hx : ∀ t : State, t.heap = H → s.vm.Alike t.vm → XC E s t) (hf : ∀ z ∈ locs, free z.base) (hc : cells ≤ mc) (hs : slots ≤ ms) :
    vx_W p l e R s m args below meth c H locs cells slots (vx_MQ below Qc XC args s mc ms free) (F0 m pc ls rest) q := by
  intro T hT X
  have hpl : e.platform.magicAccessors = ({} : Platform).magicAccessors := by rw [X.admits.platform]
  obtain ⟨vm', hW', X', st⟩ := X.outThrough hlocks q (g := F0 m pc ls rest) rfl rfl rfl (cell := ce) (by rw [hT]; exact hcell) (by rw [hv]; rfl)
    (by obtain ⟨k9, h9, -⟩ := Vm.findClass_spec hcl; exact ⟨k9, h9⟩) (fun z hz => by
      rcases hpass z hz with h | ⟨hz0, nm, hl1, hn1⟩
      · exact Or.inl h
      · obtain ⟨c6, hc6, hcl6⟩ := Cond.classLink_spec hown hl1 e.platform hpl
        obtain ⟨a8, b8, h1, h2, h3⟩ := hn1
        cases Option.some.inj (h1.symm.trans hcl)
        cases Option.some.inj (h2.symm.trans hc6)
        exact Or.inr ⟨hz0, _, hcl6, h3⟩)
  obtain ⟨g₀, hfr⟩ := X'.frames_eq
  have hcell9 : ((T.setVm vm').setFrames (.throwing q :: below)).heap[q]? = some ce := by
    show T.heap[q]? = some ce
    rw [hT]; exact hcell
  have hend : Ended ((T.setVm vm').setFrames (.throwing q :: below)) below (.threw q) := State.frames_setFrames _ (State.cur_lt_of_frames hfr)
  refine ⟨(T.setVm vm').setFrames (.throwing q :: below), ?_, .threw q, X'.here.running, hend, Or.inr ⟨q, rfl, E, ce, locs, hx _ hT (X'.ends _).1.alike, hcell9, hv, hcl, (X'.ends _).1, (X'.ends _).2.mono hc hs, hf⟩⟩
  rw [X.pushThrowing_eq]
  exact st
/-- a thing of a world lies in the heap -/
theorem vx_lt {D : va_G} {cl : List vw_C} {ws : va_W} {H1 : Heap} (h : va_P D cl ws H1) {k : Nat} {q : Nat × va_E} (hk : ws[k]? = some q) : q.1 < H1.size := (h k q hk).lt
end VXS
/-! ===== END ===== -/
/-! ===== BEGIN methods with a table of their own: called by a name, returning or throwing ===== -/
section VXH
/-! vx_backW, vx_callVX, vx_callSX, vx_callVW, vx_runVW, vx_runVX, vx_runSX, vx_ofWH follow the same proofs as their sisters above (Free/Laws.lean, Shelf42/LK1.lean); vx_outP calls Shelf42/NT130.lean (outThrough). -/
section
variable {l : Launch} {R : Room} {p : Program} {e : Env} {below : List Frame} {s : State} {sargs : Array Value} {y : MethodName} {len W9 : Nat}
theorem vx_backW {ws : List Cond} {rm : Room} {Pc : Array Value → State → Prop} {Qc : Array Value → State → Outcome → State → Prop} {XC : String → State → State → Prop} {mc ms : Nat} {free : Addr → Prop} {bytes : ByteArray} {maxL : Nat} {ret : Option FieldType} {hh : List (Nat × Nat × Nat × Nat)}
    (hM : vx_Met l y ws rm Pc Qc XC mc ms free) (hblind : FrameBlind Pc) (hrc : rm.cells = mc) (hrs : rm.slots = ms)
    (hframes : rm.frames + 1 ≤ R.frames) (hlocals : W9 + (maxL + 11) + rm.locals ≤ R.locals)
    (hws : ∀ w ∈ ws, ∀ a' U, s.WarmedH U.vm → w.before a' U = true) (hcode : Cond.codeWith y bytes maxL ret hh ∈ ws) (hinit : ∀ a' U, s.WarmedH U.vm → (Cond.initialized y.cls).before a' U = true) :
    vx_Back l R p e below s sargs y len W9 (PreOf R mc ms Pc) (PostOf Qc mc ms free) (vx_Post XC mc ms free) := by
  intro m meth c A g ig mk a X hg hsize hdg hW hn hp
  have h1 : (headSpec ws rm).pre.before a A.U = true := atoms_intro fun w hw => hws w hw _ _ X.warmed
  have h2 : (Cond.codeWith y bytes maxL ret hh).before a A.U = true := hws _ hcode _ _ X.warmed
  have h3 : (Cond.initialized y.cls).before a A.U = true := hinit _ _ X.warmed
  have h4 : A.cells + (headSpec ws rm).room.cells ≤ R.cells := by rw [show (headSpec ws rm).room.cells = mc from hrc]; exact hp.1
  have h5 : A.slots + (headSpec ws rm).room.slots ≤ R.slots := by rw [show (headSpec ws rm).room.slots = ms from hrs]; exact hp.2.1
  have hPc : Pc a (A.U.calling g mk a) := hblind _ _ _ _ hp.2.2
  obtain ⟨U, Ls, c0, s0⟩ := A
  dsimp only [Pt.U, Pt.locs, Pt.cells, Pt.slots] at h1 h2 h3 h4 h5 X hn hPc ⊢
  obtain ⟨m9, methY, cY, hn9, hmY, hcY, -, hlY, -⟩ := Cond.codeWith_spec h2
  cases Option.some.inj (hn9.symm.trans hn)
  obtain ⟨kY, hkY, -⟩ := className_of_methodNamed hn
  have hinitY : kY.init = .initialized := Cond.initialized_spec (findClass_of_methodNamed hn) hkY h3
  have h : At U g.method c below := by rw [hg]; exact X.here
  have hlocals9 : W9 + (maxL + 11) + (headSpec ws rm).room.locals ≤ R.locals := hlocals
  have happ : (headSpec ws rm).appliesLoose y e.platform (U.calling g mk a) = true :=
    Spec.appliesLoose_calling (g := g) h hdg hn hkY hinitY
      (X.room_calling (g := g) (R' := (headSpec ws rm).room) hsize hmY hcY hframes (by rw [hlY]; omega) h4 h5) h1
  obtain ⟨mid, hmid⟩ := h.above
  have hfr : (U.setTop g).frames = (.java g :: mid) ++ below := by rw [State.frames_setTop' g h.top, hmid]; rfl
  obtain ⟨o, s₂, hsteps, -, hend, hq⟩ := Steps.callFree hM p X.admits X.cas X.clock (acts := []) hfr happ hPc trivial
  have hq' : vx_Q Qc XC mc ms free a (U.calling g mk a) o s₂ := hq
  rw [State.frames_setTop' g h.top] at hend
  obtain ⟨g₀, hg0⟩ := Option.isSome_iff_exists.mp h.top
  obtain ⟨r, hr⟩ := State.topJava?_eq_some.mp hg0
  have hr' : (({ U with heap := s₂.heap, slotsUsed := s₂.slotsUsed } : State).setVm s₂.vm).frames = .java g₀ :: r := hr
  rcases hq' with ⟨hqc, L, hfe, hL⟩ | ⟨q, rfl, E, ce, L, hx, hce, hcv, hcl, hW₂, hsm, hL⟩
  · obtain ⟨⟨v, rfl⟩, hW₂, e2, q2, q3, q4, q5, q6⟩ := id hfe
    have e3 : s₂ = ({ (U.calling g mk a).setFrames s₂.frames with heap := s₂.heap, slotsUsed := s₂.slotsUsed } : State).setVm s₂.vm := by
      have : s₂ = ({ s₂ with vm := (U.calling g mk a).vm } : State).setVm s₂.vm := rfl
      rw [e2] at this
      exact this
    obtain ⟨c₂, i₂, len₂, hc₂, hd₂, hf₂⟩ := hend
    have hW' : U.WarmedH s₂.vm := hW₂
    have hcc : c₂ = c := by
      have h1 : s₂.code? g.method = U.code? g.method := by
        rw [State.code?_eq, State.code?_eq, hW'.alike.method?]
      exact Option.some.inj (hc₂.symm.trans (h1.trans h.code))
    subst hcc
    have hlen : len₂ = len := by rw [hdg] at hd₂; cases hd₂; rfl
    subst hlen
    have hs₂ : s₂ = (({ U with heap := s₂.heap, slotsUsed := s₂.slotsUsed } : State).setVm s₂.vm).setTop { g with pc := g.pc + len₂, stack := v.toList ++ g.stack } := by
      refine e3.trans ?_
      rw [hf₂, State.calling_eq h.top, State.setFrames_setFrames, State.setTop_of_frames _ hr', hr]
      rfl
    have hsame : U.sameButNew ({ U with heap := s₂.heap, slotsUsed := s₂.slotsUsed } : State) L mc ms := by
      refine ⟨?_, q2, q3, q4, q5, q6⟩
      obtain ⟨t, ht, -⟩ := State.frames_cons hr
      show ({ U with heap := s₂.heap, slotsUsed := s₂.slotsUsed } : State) = { U.setFrames U.frames with heap := s₂.heap, slotsUsed := s₂.slotsUsed }
      rw [State.setFrames_self ht]
    subst hg
    refine Or.inl ⟨v, ⟨(({ U with heap := s₂.heap, slotsUsed := s₂.slotsUsed } : State).setVm s₂.vm), Ls ++ L, c0 + mc, s0 + ms⟩,
      ⟨X.admits, X.cas, X.clock, X.frames, X.room, X.hears, X.method, X.code, (X.here.setHeapUsed s₂.heap s₂.slotsUsed).setVm hW'.alike, X.tail, State.WarmedH.trans X.warmed hW', X.limits, X.bytes, X.same.trans (hsame.setVm s.vm)⟩,
      ⟨g, mk, s₂, L, rfl, rfl, hqc, rfl, hL, rfl, rfl⟩, ?_⟩
    show Steps p.tables e below _ ((({ U with heap := s₂.heap, slotsUsed := s₂.slotsUsed } : State).setVm s₂.vm).setTop { g with pc := g.pc + len₂, stack := v.toList ++ g.stack })
    rw [← hs₂]
    exact hsteps
  · obtain ⟨e2, q2, q3, q4, q5, q6⟩ := id hsm
    have e3 : s₂ = ({ (U.calling g mk a).setFrames s₂.frames with heap := s₂.heap, slotsUsed := s₂.slotsUsed } : State).setVm s₂.vm := by
      have : s₂ = ({ s₂ with vm := (U.calling g mk a).vm } : State).setVm s₂.vm := rfl
      rw [e2] at this
      exact this
    have hf₂ : s₂.frames = .throwing q :: .java g :: U.frames.tail := hend
    have hW' : U.WarmedH s₂.vm := hW₂
    have hs₂ : s₂ = ((({ U with heap := s₂.heap, slotsUsed := s₂.slotsUsed } : State).setVm s₂.vm).setTop g).pushFrame (.throwing q) := by
      refine e3.trans ?_
      rw [hf₂, State.calling_eq h.top, State.setFrames_setFrames, State.pushFrame, State.frames_setTop _ hr', State.setTop_of_frames _ hr', State.setFrames_setFrames, hr]
      rfl
    have hsame : U.sameButNew ({ U with heap := s₂.heap, slotsUsed := s₂.slotsUsed } : State) L mc ms := by
      refine ⟨?_, q2, q3, q4, q5, q6⟩
      obtain ⟨t, ht, -⟩ := State.frames_cons hr
      show ({ U with heap := s₂.heap, slotsUsed := s₂.slotsUsed } : State) = { U.setFrames U.frames with heap := s₂.heap, slotsUsed := s₂.slotsUsed }
      rw [State.setFrames_self ht]
    subst hg
    refine Or.inr ⟨q, ⟨(({ U with heap := s₂.heap, slotsUsed := s₂.slotsUsed } : State).setVm s₂.vm), Ls ++ L, c0 + mc, s0 + ms⟩,
      ⟨X.admits, X.cas, X.clock, X.frames, X.room, X.hears, X.method, X.code, (X.here.setHeapUsed s₂.heap s₂.slotsUsed).setVm hW'.alike, X.tail, State.WarmedH.trans X.warmed hW', X.limits, X.bytes, X.same.trans (hsame.setVm s.vm)⟩,
      ⟨g, mk, s₂, L, E, ce, rfl, rfl, hx, hce, hcv, hcl, rfl, hL, rfl, rfl⟩, ?_⟩
    show Steps p.tables e below _ (((({ U with heap := s₂.heap, slotsUsed := s₂.slotsUsed } : State).setVm s₂.vm).setTop g).pushFrame (.throwing q))
    rw [← hs₂]
    exact hsteps
end
variable {p : Program} {l : Launch} {e : Env} {R : Room} {s : State} {m : MethodId} {args : Array Value} {below : List Frame} {meth : Method} {c : Code} {T : State} {H : Heap} {locs : List Loc} {cells slots : Nat}
theorem vx_callVX (X : Stand p l e R s m args below meth c T locs cells slots) (hexec : p.tables.exec = Jvm.exec) {own C : String} {index : Nat} {y : MethodName} {bytes : ByteArray} {maxL : Nat} {ret : Option FieldType} {hh : List (Nat × Nat × Nat × Nat)}
    (hown : s.vm.findClass own = some m.cls) (hlink : (Cond.methodLink own index y).before args s = true) (hinst : (Cond.instanceMethod y).before args s = true) (hsel : (Cond.selects C y y).before args s = true)
    (hcode : (Cond.codeWith y bytes maxL ret hh).before args s = true) (hy : y.cls ≠ "java/lang/invoke/MethodHandle" ∧ y.cls ≠ "java/lang/invoke/VarHandle")
    {W9 : Nat} {Pre : Pt → Array Value → Prop} {Post : Pt → Array Value → Option Value → Pt → Prop} {PostX : Pt → Array Value → Addr → Pt → Prop} (hK : vx_Back l R p e below s args y 3 W9 Pre Post PostX)
    {b : Addr} {cellB : Cell} (hcell : T.heap[b]? = some cellB) (hobj : cellB.vm.isStatics = false) (hcls : s.vm.findClass C = some cellB.cls)
    {g : JFrame} (hg : g.method = m) (hsize : g.locals.size = c.maxLocals) {argsL rest : List Value} (hlen : ∀ sig, parseMethodDescriptor y.desc = some sig → argsL.length = sig.parameters.length)
    (hstack : g.stack = argsL.reverse ++ .ref b :: rest) (hW : 2 * g.monitorRoom + (rest.map fun v => v.category).sum ≤ W9) (hdg : decode c.code g.pc = .ok (.invokevirtual index, 3))
    (hpre : ∀ vm₁, s.WarmedH vm₁ → Pre ⟨T.setVm vm₁, locs, cells, slots⟩ (Value.ref b :: argsL).toArray) :
    (∃ (v : Option Value) (vm₁ : Vm) (B : Pt), s.WarmedH vm₁ ∧ Stand p l e R s m args below meth c B.U B.locs B.cells B.slots ∧ Post ⟨T.setVm vm₁, locs, cells, slots⟩ (Value.ref b :: argsL).toArray v B ∧
      ∀ target, Steps p.tables e below (B.U.setTop { g with pc := g.pc + 3, stack := v.toList ++ rest }) target → Steps p.tables e below (T.setTop g) target) ∨
    (∃ (q : Addr) (vm₁ : Vm) (B : Pt), s.WarmedH vm₁ ∧ Stand p l e R s m args below meth c B.U B.locs B.cells B.slots ∧ PostX ⟨T.setVm vm₁, locs, cells, slots⟩ (Value.ref b :: argsL).toArray q B ∧
      Steps p.tables e below (T.setTop g) ((B.U.setTop { g with stack := rest }).pushFrame (.throwing q))) := by
  obtain ⟨mk, methM, hnamed, hmethM, hstM, habM⟩ := Cond.instanceMethod_spec hinst
  obtain ⟨m8, methM', cM, hn8, hmethM', -, -, -, -, -, -, hsigM⟩ := Cond.codeWith_spec hcode
  cases Option.some.inj (hn8.symm.trans hnamed)
  cases hmethM.symm.trans hmethM'
  obtain ⟨c2, r2, m2, q1, q2, q3, q4, kP, hkP, hkPi⟩ := Cond.selects_spec hsel
  cases hcls.symm.trans q1
  cases (State.methodFound?_of_named hnamed hy).symm.trans q2
  cases hnamed.symm.trans q3
  have hselP : selectMethod e.platform s.vm cellB.cls mk = .method mk := by rw [Launch.admits_selectMethod X.admits]; exact q4
  obtain ⟨vm₁, X₁, hstep₁⟩ := X.invokevirtual hexec hown hlink hnamed hmethM hstM hkP hkPi hy (a := b) (cell := cellB) hcell
    (fun z h => by rw [h] at hobj; cases hobj) hselP hmethM habM hkP hkPi (g := g) hg (argsL := argsL) (rest := rest) (hlen _ hsigM) hstack hdg
  rcases hK m meth c ⟨T.setVm vm₁, locs, cells, slots⟩ { g with stack := rest } (.invokevirtual index) mk (Value.ref b :: argsL).toArray X₁ hg hsize hdg hW (X₁.named hnamed) (hpre vm₁ X₁.warmed) with ⟨v, B, X', hpost, hsteps⟩ | ⟨q, B, X', hpost, hsteps⟩
  · exact Or.inl ⟨v, vm₁, B, X₁.warmed, X', hpost, fun target h => hstep₁ _ fun acts => by rw [doInvoke_state]; exact hsteps.trans h⟩
  · exact Or.inr ⟨q, vm₁, B, X₁.warmed, X', hpost, hstep₁ _ fun acts => by rw [doInvoke_state]; exact hsteps⟩
theorem vx_callSX (X : Stand p l e R s m args below meth c T locs cells slots) (hexec : p.tables.exec = Jvm.exec) {own : String} {index : Nat} {y : MethodName} {bytes : ByteArray} {maxL : Nat} {ret : Option FieldType} {hh : List (Nat × Nat × Nat × Nat)}
    (hown : s.vm.findClass own = some m.cls) (hlink : (Cond.methodLink own index y).before args s = true) (hstat : (Cond.static y).before args s = true) (hinit : (Cond.initialized y.cls).before args s = true)
    (hcode : (Cond.codeWith y bytes maxL ret hh).before args s = true) (hy : y.cls ≠ "java/lang/invoke/MethodHandle" ∧ y.cls ≠ "java/lang/invoke/VarHandle")
    {W9 : Nat} {Pre : Pt → Array Value → Prop} {Post : Pt → Array Value → Option Value → Pt → Prop} {PostX : Pt → Array Value → Addr → Pt → Prop} (hK : vx_Back l R p e below s args y 3 W9 Pre Post PostX)
    {g : JFrame} (hg : g.method = m) (hsize : g.locals.size = c.maxLocals) {argsL rest : List Value} (hlen : ∀ sig, parseMethodDescriptor y.desc = some sig → argsL.length = sig.parameters.length)
    (hstack : g.stack = argsL.reverse ++ rest) (hW : 2 * g.monitorRoom + (rest.map fun v => v.category).sum ≤ W9) (hdg : decode c.code g.pc = .ok (.invokestatic index, 3))
    (hpre : ∀ vm₁, s.WarmedH vm₁ → Pre ⟨T.setVm vm₁, locs, cells, slots⟩ argsL.toArray) :
    (∃ (v : Option Value) (vm₁ : Vm) (B : Pt), s.WarmedH vm₁ ∧ Stand p l e R s m args below meth c B.U B.locs B.cells B.slots ∧ Post ⟨T.setVm vm₁, locs, cells, slots⟩ argsL.toArray v B ∧
      ∀ target, Steps p.tables e below (B.U.setTop { g with pc := g.pc + 3, stack := v.toList ++ rest }) target → Steps p.tables e below (T.setTop g) target) ∨
    (∃ (q : Addr) (vm₁ : Vm) (B : Pt), s.WarmedH vm₁ ∧ Stand p l e R s m args below meth c B.U B.locs B.cells B.slots ∧ PostX ⟨T.setVm vm₁, locs, cells, slots⟩ argsL.toArray q B ∧
      Steps p.tables e below (T.setTop g) ((B.U.setTop { g with stack := rest }).pushFrame (.throwing q))) := by
  obtain ⟨mk, methM, cM, hnamed, hmethM, -, -, -, -, -, -, hsigM⟩ := Cond.codeWith_spec hcode
  have hstatic : methM.isStatic = true := Cond.static_spec hnamed hmethM hstat
  obtain ⟨kP, hkP, -⟩ := className_of_methodNamed hnamed
  have hinitP : kP.init = .initialized := Cond.initialized_spec (findClass_of_methodNamed hnamed) hkP hinit
  obtain ⟨vm₁, X₁, hstep₁⟩ := X.invokestatic hexec hown hlink hnamed hmethM hstatic hkP hinitP hy (g := g) hg (argsL := argsL) (rest := rest) (hlen _ hsigM) hstack hdg
  rcases hK m meth c ⟨T.setVm vm₁, locs, cells, slots⟩ { g with stack := rest } (.invokestatic index) mk argsL.toArray X₁ hg hsize hdg hW (X₁.named hnamed) (hpre vm₁ X₁.warmed) with ⟨v, B, X', hpost, hsteps⟩ | ⟨q, B, X', hpost, hsteps⟩
  · exact Or.inl ⟨v, vm₁, B, X₁.warmed, X', hpost, fun target h => hstep₁ _ fun acts => by rw [doInvoke_state]; exact hsteps.trans h⟩
  · exact Or.inr ⟨q, vm₁, B, X₁.warmed, X', hpost, hstep₁ _ fun acts => by rw [doInvoke_state]; exact hsteps⟩
theorem vx_callVW (X : Stand p l e R s m args below meth c T locs cells slots) (hexec : p.tables.exec = Jvm.exec) {own C : String} {index : Nat} {y : MethodName} {bytes : ByteArray} {maxL : Nat} {ret : Option FieldType} {hh : List (Nat × Nat × Nat × Nat)}
    (hown : s.vm.findClass own = some m.cls) (hlink : (Cond.methodLink own index y).before args s = true) (hinst : (Cond.instanceMethod y).before args s = true) (hsel : (Cond.selects C y y).before args s = true)
    (hcode : (Cond.codeWith y bytes maxL ret hh).before args s = true) (hy : y.cls ≠ "java/lang/invoke/MethodHandle" ∧ y.cls ≠ "java/lang/invoke/VarHandle")
    {W9 : Nat} {Pre : Pt → Array Value → Prop} {Post : Pt → Array Value → Option Value → Pt → Prop} (hK : Back l R p e below s args y 3 W9 Pre Post)
    {b : Addr} {cellB : Cell} (hcell : T.heap[b]? = some cellB) (hobj : cellB.vm.isStatics = false) (hcls : s.vm.findClass C = some cellB.cls)
    {g : JFrame} (hg : g.method = m) (hsize : g.locals.size = c.maxLocals) {argsL rest : List Value} (hlen : ∀ sig, parseMethodDescriptor y.desc = some sig → argsL.length = sig.parameters.length)
    (hstack : g.stack = argsL.reverse ++ .ref b :: rest) (hW : 2 * g.monitorRoom + (rest.map fun v => v.category).sum ≤ W9) (hdg : decode c.code g.pc = .ok (.invokevirtual index, 3))
    (hpre : ∀ vm₁, s.WarmedH vm₁ → Pre ⟨T.setVm vm₁, locs, cells, slots⟩ (Value.ref b :: argsL).toArray) :
    ∃ (v : Option Value) (vm₁ : Vm) (B : Pt), s.WarmedH vm₁ ∧ Stand p l e R s m args below meth c B.U B.locs B.cells B.slots ∧ Post ⟨T.setVm vm₁, locs, cells, slots⟩ (Value.ref b :: argsL).toArray v B ∧
      ∀ target, Steps p.tables e below (B.U.setTop { g with pc := g.pc + 3, stack := v.toList ++ rest }) target → Steps p.tables e below (T.setTop g) target := by
  obtain ⟨mk, methM, hnamed, hmethM, hstM, habM⟩ := Cond.instanceMethod_spec hinst
  obtain ⟨m8, methM', cM, hn8, hmethM', -, -, -, -, -, -, hsigM⟩ := Cond.codeWith_spec hcode
  cases Option.some.inj (hn8.symm.trans hnamed)
  cases hmethM.symm.trans hmethM'
  obtain ⟨c2, r2, m2, q1, q2, q3, q4, kP, hkP, hkPi⟩ := Cond.selects_spec hsel
  cases hcls.symm.trans q1
  cases (State.methodFound?_of_named hnamed hy).symm.trans q2
  cases hnamed.symm.trans q3
  have hselP : selectMethod e.platform s.vm cellB.cls mk = .method mk := by rw [Launch.admits_selectMethod X.admits]; exact q4
  obtain ⟨vm₁, X₁, hstep₁⟩ := X.invokevirtual hexec hown hlink hnamed hmethM hstM hkP hkPi hy (a := b) (cell := cellB) hcell
    (fun z h => by rw [h] at hobj; cases hobj) hselP hmethM habM hkP hkPi (g := g) hg (argsL := argsL) (rest := rest) (hlen _ hsigM) hstack hdg
  obtain ⟨v, B, X', hpost, hsteps⟩ := hK m meth c ⟨T.setVm vm₁, locs, cells, slots⟩ { g with stack := rest } (.invokevirtual index) mk (Value.ref b :: argsL).toArray X₁ hg hsize hdg hW (X₁.named hnamed) (hpre vm₁ X₁.warmed)
  exact ⟨v, vm₁, B, X₁.warmed, X', hpost, fun target h => hstep₁ _ fun acts => by rw [doInvoke_state]; exact hsteps.trans h⟩
abbrev vx_CVW (R : Room) (s : State) (args : Array Value) (own C : String) (index : Nat) (y : MethodName) (bytes : ByteArray) (maxL : Nat) (ret : Option FieldType) (hh : List (Nat × Nat × Nat × Nat)) (ws : List Cond) (rm : Room) (mc ms n : Nat) : Prop :=
  (rm.cells = mc ∧ rm.slots = ms ∧ rm.frames + 1 ≤ R.frames ∧ 8 + (maxL + 11) + rm.locals ≤ R.locals ∧ (∀ w ∈ ws, ∀ (a' : Array Value) (U : State), s.WarmedH U.vm → w.before a' U = true) ∧ Cond.codeWith y bytes maxL ret hh ∈ ws) ∧
  (Cond.codeWith y bytes maxL ret hh).before args s = true ∧ (Cond.initialized y.cls).before args s = true ∧ (y.cls ≠ "java/lang/invoke/MethodHandle" ∧ y.cls ≠ "java/lang/invoke/VarHandle") ∧
  (∀ sig, parseMethodDescriptor y.desc = some sig → n = sig.parameters.length) ∧ (Cond.methodLink own index y).before args s = true ∧ (Cond.instanceMethod y).before args s = true ∧ (Cond.selects C y y).before args s = true
theorem vx_cwVW {own C : String} {index maxL mc ms : Nat} {y : MethodName} {bytes : ByteArray} {ret : Option FieldType} {hh : List (Nat × Nat × Nat × Nat)} {Ts ws ws' : List Cond} {rm : Room} (n : Nat) (ht : ∀ w ∈ Ts, w.before args s = true) (hT : GoodIn Ts (wsV own index C y ws)) (hw : ws = Cond.codeWith y bytes maxL ret hh :: ws') (hrc : rm.cells = mc) (hrs : rm.slots = ms)
    (hd : y.cls = C ∧ y.cls ≠ "java/lang/invoke/MethodHandle" ∧ y.cls ≠ "java/lang/invoke/VarHandle" ∧ (parseMethodDescriptor y.desc).map (fun d => d.parameters.length) = some n) (hR : rm.frames + 1 ≤ R.frames ∧ 8 + (maxL + 11) + rm.locals ≤ R.locals) :
    vx_CVW R s args own C index y bytes maxL ret hh ws rm mc ms n := by
  obtain ⟨hC, hd⟩ := hd
  subst hC
  have ok : ∀ w ∈ wsV own index y.cls y ws, w.before args s = true := fun w h => ht w (hT w h).1
  have hG : GoodIn Ts ws := fun w h => hT w (by unfold wsV; exact List.mem_append_right _ h)
  have hc : Cond.codeWith y bytes maxL ret hh ∈ ws := by rw [hw]; exact List.mem_cons_self
  refine ⟨⟨hrc, hrs, hR.1, hR.2, pay_in ht hG, hc⟩, ht _ (hG _ hc).1, ok _ (by simp [wsV]), ⟨hd.1, hd.2.1⟩, fun sig h => ?_, ok _ (by simp [wsV]), ok _ (by simp [wsV]), ok _ (by simp [wsV])⟩
  have h2 := hd.2.2
  rw [h] at h2
  exact (Option.some.inj h2).symm
theorem vx_runVW {y : MethodName} {bytes cc : ByteArray} {maxL nL mc ms n index : Nat} {ret : Option FieldType} {hh : List (Nat × Nat × Nat × Nat)} {ws : List Cond} {rm : Room} {Pc : Array Value → State → Prop} {Qc : Array Value → State → Outcome → State → Prop} {free : Addr → Prop} {Ts : List Cond} {own C : String} {b : Addr} {As rest : List Value} {g : JFrame}
    (S : CallFix p m c cc nL s args Ts own) (hM : Met l y ws rm Pc Qc mc ms free) (cw : vx_CVW R s args own C index y bytes maxL ret hh ws rm mc ms n) (hp : PreV s H C b Pc As)
    (hg : g.method = m) (hn : As.length = n) (hsize : g.locals.size = nL) (hstack : g.stack = As.reverse ++ .ref b :: rest) (hW : 2 * g.monitorRoom + (rest.map fun v => v.category).sum ≤ 8) (hdg : decode cc g.pc = .ok (.invokevirtual index, 3)) (hf : cells + mc ≤ R.cells ∧ slots + ms ≤ R.slots) :
    va_Run p l e R s m args below meth c H locs cells slots mc ms g rest (Qc (Value.ref b :: As).toArray) free := by
  obtain ⟨⟨hrc, hrs, hfr, hlo, hws, hcw⟩, hcode, hini, hy, hlen, hl, hin, hse⟩ := cw
  have hK : Back l R p e below s args y 3 8 (PreOf R mc ms Pc) (PostOf Qc mc ms free) := va_backW (hh := hh) (bytes := bytes) (maxL := maxL) (ret := ret) hM hp.1 hrc hrs hfr hlo hws hcw (fun a' U hW => word_at hW (Or.inl (by first | rfl | simp [Cond.onTables, Cond.keeps, Cond.steady])) hini)
  obtain ⟨hx, hb, hml, ho, -⟩ := S
  obtain ⟨-, ⟨cellB, hcB, hoB, hclB⟩, hPc⟩ := hp
  intro T hT X
  obtain ⟨v, vm₁, ⟨U', l2, c2, s2⟩, hW₁, X', ⟨g', mk, t, L, e1, e2, hq, h1, hL, h2, h3⟩, st⟩ := vx_callVW X hx (C := C) (hh := hh) (bytes := bytes) (maxL := maxL) (ret := ret) ho hl hin hse hcode hy hK (by rw [hT]; exact hcB) hoB hclB hg (hsize.trans hml.symm) (argsL := As) (rest := rest) (fun sig h => hn.trans (hlen sig h)) hstack hW (by rw [hb]; exact hdg)
    (fun vm₁ hW₁ => ⟨hf.1, hf.2, hPc (T.setVm vm₁) hT hW₁⟩)
  dsimp only [Pt.U, Pt.locs, Pt.cells, Pt.slots] at X' e1 e2 h1 h2 h3 st
  subst h1; subst h2; subst h3
  exact ⟨v, (T.setVm vm₁).calling g' mk (Value.ref b :: As).toArray, t, U', L, hT, X', hL, e1, e2, hq, st⟩
section
variable {y : MethodName} {bytes cc : ByteArray} {maxL nL mc ms n index : Nat} {ret : Option FieldType} {ws : List Cond} {rm : Room} {Pc : Array Value → State → Prop} {Qc : Array Value → State → Outcome → State → Prop} {XC : String → State → State → Prop} {free : Addr → Prop} {Ts : List Cond} {own C : String} {b : Addr} {As rest : List Value} {g : JFrame}
theorem vx_runVX {hh : List (Nat × Nat × Nat × Nat)} (S : CallFix p m c cc nL s args Ts own) (hM : vx_Met l y ws rm Pc Qc XC mc ms free) (cw : vx_CVW R s args own C index y bytes maxL ret hh ws rm mc ms n) (hp : PreV s H C b Pc As)
    (hg : g.method = m) (hn : As.length = n) (hsize : g.locals.size = nL) (hstack : g.stack = As.reverse ++ .ref b :: rest) (hW : 2 * g.monitorRoom + (rest.map fun v => v.category).sum ≤ 8) (hdg : decode cc g.pc = .ok (.invokevirtual index, 3)) (hf : cells + mc ≤ R.cells ∧ slots + ms ≤ R.slots) :
    vx_Run p l e R s m args below meth c H locs cells slots mc ms g rest (Qc (Value.ref b :: As).toArray) XC free := by
  obtain ⟨⟨hrc, hrs, hfr, hlo, hws, hcw⟩, hcode, hini, hy, hlen, hl, hin, hse⟩ := cw
  have hK : vx_Back l R p e below s args y 3 8 (PreOf R mc ms Pc) (PostOf Qc mc ms free) (vx_Post XC mc ms free) := vx_backW (hh := hh) (bytes := bytes) (maxL := maxL) (ret := ret) hM hp.1 hrc hrs hfr hlo hws hcw (fun a' U hW => word_at hW (Or.inl (by first | rfl | simp [Cond.onTables, Cond.keeps, Cond.steady])) hini)
  obtain ⟨hx, hb, hml, ho, -⟩ := S
  obtain ⟨-, ⟨cellB, hcB, hoB, hclB⟩, hPc⟩ := hp
  intro T hT X
  rcases vx_callVX X hx (C := C) (hh := hh) (bytes := bytes) (maxL := maxL) (ret := ret) ho hl hin hse hcode hy hK (by rw [hT]; exact hcB) hoB hclB hg (hsize.trans hml.symm) (argsL := As) (rest := rest) (fun sig h => hn.trans (hlen sig h)) hstack hW (by rw [hb]; exact hdg)
    (fun vm₁ hW₁ => ⟨hf.1, hf.2, hPc (T.setVm vm₁) hT hW₁⟩) with ⟨v, vm₁, ⟨U', l2, c2, s2⟩, hW₁, X', ⟨g', mk, t, L, e1, e2, hq, h1, hL, h2, h3⟩, st⟩ | ⟨q, vm₁, ⟨U', l2, c2, s2⟩, hW₁, X', ⟨g', mk, t, L, E, ce, e1, e2, hq, hce, hcv, hcl, h1, hL, h2, h3⟩, st⟩
  · dsimp only [Pt.U, Pt.locs, Pt.cells, Pt.slots] at X' e1 e2 h1 h2 h3 st
    subst h1; subst h2; subst h3
    exact Or.inl ⟨v, (T.setVm vm₁).calling g' mk (Value.ref b :: As).toArray, t, U', L, hT, X', hL, e1, e2, hq, st⟩
  · dsimp only [Pt.U, Pt.locs, Pt.cells, Pt.slots] at X' e1 e2 h1 h2 h3 st hcl
    subst h1; subst h2; subst h3
    exact Or.inr ⟨q, (T.setVm vm₁).calling g' mk (Value.ref b :: As).toArray, t, U', L, E, ce, hT, X', hL, e1, e2, hq, hce, hcv, vx_cls hW₁ hcl, st⟩
theorem vx_runSX {hh : List (Nat × Nat × Nat × Nat)} (S : CallFix p m c cc nL s args Ts own) (hM : vx_Met l y ws rm Pc Qc XC mc ms free) (cw : vx_CSW R s args own index y bytes maxL ret hh ws rm mc ms n) (hp : PreS s H Pc As)
    (hg : g.method = m) (hn : As.length = n) (hsize : g.locals.size = nL) (hstack : g.stack = As.reverse ++ rest) (hW : 2 * g.monitorRoom + (rest.map fun v => v.category).sum ≤ 8) (hdg : decode cc g.pc = .ok (.invokestatic index, 3)) (hf : cells + mc ≤ R.cells ∧ slots + ms ≤ R.slots) :
    vx_Run p l e R s m args below meth c H locs cells slots mc ms g rest (Qc As.toArray) XC free := by
  obtain ⟨⟨hrc, hrs, hfr, hlo, hws, hcw⟩, hcode, hini, hy, hlen, hl, hstt⟩ := cw
  have hK : vx_Back l R p e below s args y 3 8 (PreOf R mc ms Pc) (PostOf Qc mc ms free) (vx_Post XC mc ms free) := vx_backW (hh := hh) (bytes := bytes) (maxL := maxL) (ret := ret) hM hp.1 hrc hrs hfr hlo hws hcw (fun a' U hW => word_at hW (Or.inl (by first | rfl | simp [Cond.onTables, Cond.keeps, Cond.steady])) hini)
  obtain ⟨hx, hb, hml, ho, -⟩ := S
  intro T hT X
  rcases vx_callSX X hx (hh := hh) (bytes := bytes) (maxL := maxL) (ret := ret) ho hl hstt hini hcode hy hK hg (hsize.trans hml.symm) (argsL := As) (rest := rest) (fun sig h => hn.trans (hlen sig h)) hstack hW (by rw [hb]; exact hdg)
    (fun vm₁ hW₁ => ⟨hf.1, hf.2, hp.2 (T.setVm vm₁) hT hW₁⟩) with ⟨v, vm₁, ⟨U', l2, c2, s2⟩, hW₁, X', ⟨g', mk, t, L, e1, e2, hq, h1, hL, h2, h3⟩, st⟩ | ⟨q, vm₁, ⟨U', l2, c2, s2⟩, hW₁, X', ⟨g', mk, t, L, E, ce, e1, e2, hq, hce, hcv, hcl, h1, hL, h2, h3⟩, st⟩
  · dsimp only [Pt.U, Pt.locs, Pt.cells, Pt.slots] at X' e1 e2 h1 h2 h3 st
    subst h1; subst h2; subst h3
    exact Or.inl ⟨v, (T.setVm vm₁).calling g' mk As.toArray, t, U', L, hT, X', hL, e1, e2, hq, st⟩
  · dsimp only [Pt.U, Pt.locs, Pt.cells, Pt.slots] at X' e1 e2 h1 h2 h3 st hcl
    subst h1; subst h2; subst h3
    exact Or.inr ⟨q, (T.setVm vm₁).calling g' mk As.toArray, t, U', L, E, ce, hT, X', hL, e1, e2, hq, hce, hcv, vx_cls hW₁ hcl, st⟩
end
end VXH
theorem vx_ofWH {l : Launch} {y : MethodName} {ws ws' : List Cond} {rm : Room} {Pc : Array Value → State → Prop} {Qc : Array Value → State → Outcome → State → Prop} {XC : String → State → State → Prop} {mc ms : Nat} {free : Addr → Prop} {cc : ByteArray} {maxL : Nat} {ret : Option FieldType} {hh : List (Nat × Nat × Nat × Nat)}
    (hy : plainName y.cls = true) (hw : ws = Cond.codeWith y cc maxL ret hh :: ws')
    (body : ∀ p e s m args below meth c s₁, BodyLoose p l y (headSpec ws rm) cc maxL ret e s m args below meth c s₁ → c.maxLocals = maxL → Pc args s →
      W p l e (headSpec ws rm).room s m args below meth c s.heap [] 0 0 (vx_MQ below Qc XC args s mc ms free) (entryFrame m args maxL)) : vx_Met l y ws rm Pc Qc XC mc ms free := by
  refine MetFree.of_bodyS (code := cc) (maxLocals := maxL) (ret := ret) hy ?_ ?_
  · intro args s m h hn
    obtain ⟨m9, meth, c, hn9, h1, h2, h3, h4, -, h5, h6, -⟩ := Cond.codeWith_spec (atoms_spec (ws := ws) h _ (by rw [hw]; exact List.mem_cons_self))
    cases hn.symm.trans hn9
    exact ⟨meth, c, h1, h2, h3, h4, h5, h6⟩
  · intro p e s m args below meth c s₁ B hml hP _
    have hh0 : s₁.heap = s.heap := by rw [B.state]; rfl
    obtain ⟨t, a1, o, b1, b2, b3⟩ := body p e s m args below meth c s₁ B hml hP s₁ hh0 (Stand.of_body B)
    exact ⟨t, o, a1, b1, b2, b3⟩
/-! ===== END ===== -/
end
section
/-! names: classes (0 Entry, 1 Layer, 2 Path, 3 Tree, 4 TreeChanges, 5 TreeChangesModel), their fields, the words of the tables; by program (wip/tools/gen02.py) -/
def tc_R0 : String := "TreeChanges$Entry"
def tc_T0 : u_T := fun k => match k with
  | 0 => ("TreeChanges$Entry", "path", "LTreeChanges$Path;", true)
  | 1 => ("TreeChanges$Entry", "kind", "I", false)
  | 2 => ("TreeChanges$Entry", "bytes", "[B", true)
  | _ => ("TreeChanges$Entry", "size", "I", false)
def tc_Y0 : Nat → FieldType := fun k => match k with
  | 0 => .object "TreeChanges$Path"
  | 1 => .int
  | 2 => .array .byte
  | _ => .int
theorem tc_nm0 : ∀ a, a < 4 → ∀ b, b < 4 → a ≠ b → (tc_T0 a).2.1 ≠ (tc_T0 b).2.1 := by decide +kernel
theorem tc_ok0 : ∀ k, k < 4 → parseFieldDescriptor (tc_T0 k).2.2.1 = some (tc_Y0 k) := by decide +kernel
def tc_R1 : String := "TreeChanges$Layer"
def tc_T1 : u_T := fun k => match k with
  | 0 => ("TreeChanges$Layer", "bytes", "[B", true)
  | 1 => ("TreeChanges$Layer", "length", "I", false)
  | _ => ("TreeChanges$Layer", "items", "I", false)
def tc_Y1 : Nat → FieldType := fun k => match k with
  | 0 => .array .byte
  | 1 => .int
  | _ => .int
theorem tc_nm1 : ∀ a, a < 3 → ∀ b, b < 3 → a ≠ b → (tc_T1 a).2.1 ≠ (tc_T1 b).2.1 := by decide +kernel
theorem tc_ok1 : ∀ k, k < 3 → parseFieldDescriptor (tc_T1 k).2.2.1 = some (tc_Y1 k) := by decide +kernel
def tc_R2 : String := "TreeChanges$Path"
def tc_T2 : u_T := fun k => match k with
  | 0 => ("TreeChanges$Path", "signs", "[B", true)
  | _ => ("TreeChanges$Path", "length", "I", false)
def tc_Y2 : Nat → FieldType := fun k => match k with
  | 0 => .array .byte
  | _ => .int
theorem tc_nm2 : ∀ a, a < 2 → ∀ b, b < 2 → a ≠ b → (tc_T2 a).2.1 ≠ (tc_T2 b).2.1 := by decide +kernel
theorem tc_ok2 : ∀ k, k < 2 → parseFieldDescriptor (tc_T2 k).2.2.1 = some (tc_Y2 k) := by decide +kernel
def tc_R3 : String := "TreeChanges$Tree"
def tc_T3 : u_T := fun k => match k with
  | 0 => ("TreeChanges$Tree", "rows", "[LTreeChanges$Entry;", true)
  | _ => ("TreeChanges$Tree", "count", "I", false)
def tc_Y3 : Nat → FieldType := fun k => match k with
  | 0 => .array (.object "TreeChanges$Entry")
  | _ => .int
theorem tc_nm3 : ∀ a, a < 2 → ∀ b, b < 2 → a ≠ b → (tc_T3 a).2.1 ≠ (tc_T3 b).2.1 := by decide +kernel
theorem tc_ok3 : ∀ k, k < 2 → parseFieldDescriptor (tc_T3 k).2.2.1 = some (tc_Y3 k) := by decide +kernel
def tc_R4 : String := "TreeChanges"
def tc_T4 : u_T := fun k => match k with
  | 0 => ("TreeChanges", "tree0", "LTreeChanges$Tree;", true)
  | 1 => ("TreeChanges", "tree1", "LTreeChanges$Tree;", true)
  | 2 => ("TreeChanges", "trial", "LTreeChanges$Tree;", true)
  | 3 => ("TreeChanges", "thePath", "LTreeChanges$Path;", true)
  | 4 => ("TreeChanges", "otherPath", "LTreeChanges$Path;", true)
  | 5 => ("TreeChanges", "item", "LTreeChanges$Entry;", true)
  | _ => ("TreeChanges", "theLayer", "LTreeChanges$Layer;", true)
def tc_Y4 : Nat → FieldType := fun k => match k with
  | 0 => .object "TreeChanges$Tree"
  | 1 => .object "TreeChanges$Tree"
  | 2 => .object "TreeChanges$Tree"
  | 3 => .object "TreeChanges$Path"
  | 4 => .object "TreeChanges$Path"
  | 5 => .object "TreeChanges$Entry"
  | _ => .object "TreeChanges$Layer"
theorem tc_nm4 : ∀ a, a < 7 → ∀ b, b < 7 → a ≠ b → (tc_T4 a).2.1 ≠ (tc_T4 b).2.1 := by decide +kernel
theorem tc_ok4 : ∀ k, k < 7 → parseFieldDescriptor (tc_T4 k).2.2.1 = some (tc_Y4 k) := by decide +kernel
def tc_R5 : String := "TreeChangesModel"
def tc_T5 : u_T := fun k => match k with
  | 0 => ("TreeChangesModel", "thrown", "I", false)
  | 1 => ("TreeChangesModel", "signs", "[I", true)
  | 2 => ("TreeChangesModel", "lengths", "[I", true)
  | 3 => ("TreeChangesModel", "counts", "[I", true)
  | 4 => ("TreeChangesModel", "kinds", "[I", true)
  | 5 => ("TreeChangesModel", "sizes", "[I", true)
  | 6 => ("TreeChangesModel", "bytes", "[I", true)
  | 7 => ("TreeChangesModel", "layer", "[I", true)
  | _ => ("TreeChangesModel", "used", "I", false)
def tc_Y5 : Nat → FieldType := fun k => match k with
  | 0 => .int
  | 1 => .array .int
  | 2 => .array .int
  | 3 => .array .int
  | 4 => .array .int
  | 5 => .array .int
  | 6 => .array .int
  | 7 => .array .int
  | _ => .int
theorem tc_nm5 : ∀ a, a < 9 → ∀ b, b < 9 → a ≠ b → (tc_T5 a).2.1 ≠ (tc_T5 b).2.1 := by decide +kernel
theorem tc_ok5 : ∀ k, k < 9 → parseFieldDescriptor (tc_T5 k).2.2.1 = some (tc_Y5 k) := by decide +kernel
abbrev tc_cl : List vw_C := [(tc_R0, tc_T0, 4), (tc_R1, tc_T1, 3), (tc_R2, tc_T2, 2), (tc_R3, tc_T3, 2), (tc_R4, tc_T4, 7), (tc_R5, tc_T5, 9)]
/-- a word that stays true while the machine warms up -/
def tc_wk (w : Cond) : Bool := match w with
  | .arrayClass _ => true
  | .fieldLinkNest .. => true
  | .methodLinkNest .. => true
  | .declares _ => true
  | .castable .. => true
  | w => w.onTables && w.keeps
theorem tc_wk_at {args a' : Array Value} {s U : State} (hW : s.WarmedH U.vm) {w : Cond} (hg : tc_wk w = true) (h : w.before args s = true) : w.before a' U = true := by
  cases w with
  | fieldLinkNest a i b n d q => exact va_Nw.use rfl (va_Nw.warmF hW (va_Nw.of rfl h))
  | methodLinkNest a i x q => exact va_Nw.use rfl (va_Nw.warmM hW (va_Nw.of rfl h))
  | declares x => exact va_Nw.use rfl (va_Nw.warmD hW (va_Nw.of rfl h))
  | castable x y => exact va_Nw.use rfl (va_Nw.warmC hW (va_Nw.of rfl h))
  | arrayClass t => exact word_at hW (Or.inr ⟨_, rfl⟩) h
  | _ => exact word_at hW (Or.inl hg) h
def tc_TB : List Cond := lw_tbl.filter tc_wk
theorem tc_mem {w : Cond} (n : Nat) (h : lw_tbl[n]? = some w) (g : tc_wk w = true) : w ∈ tc_TB := List.mem_filter.mpr ⟨List.mem_of_getElem? h, g⟩
end
section
/-! the words of the tables, by program (wip/tools/gen03.py) -/
theorem ts_0 : Jvm.Cond.selects "TreeChanges$Path" ⟨"TreeChanges$Path", "appendWord", "(I)V"⟩ ⟨"TreeChanges$Path", "appendWord", "(I)V"⟩ ∈ tc_TB := tc_mem 0 (by decide +kernel) (by decide +kernel)
theorem ts_1 : Jvm.Cond.selects "TreeChanges$Path" ⟨"TreeChanges$Path", "isWellFormed", "()Z"⟩ ⟨"TreeChanges$Path", "isWellFormed", "()Z"⟩ ∈ tc_TB := tc_mem 1 (by decide +kernel) (by decide +kernel)
theorem ts_2 : Jvm.Cond.selects "TreeChanges" ⟨"TreeChanges", "treeOf", "(I)LTreeChanges$Tree;"⟩ ⟨"TreeChanges", "treeOf", "(I)LTreeChanges$Tree;"⟩ ∈ tc_TB := tc_mem 2 (by decide +kernel) (by decide +kernel)
theorem ts_3 : Jvm.Cond.selects "java/lang/Throwable" ⟨"java/lang/Throwable", "fillInStackTrace", "(I)Ljava/lang/Throwable;"⟩ ⟨"java/lang/Throwable", "fillInStackTrace", "(I)Ljava/lang/Throwable;"⟩ ∈ tc_TB := tc_mem 3 (by decide +kernel) (by decide +kernel)
theorem ts_4 : Jvm.Cond.selects "TreeChanges$Tree" ⟨"TreeChanges$Tree", "findStart", "(LTreeChanges$Path;I)I"⟩ ⟨"TreeChanges$Tree", "findStart", "(LTreeChanges$Path;I)I"⟩ ∈ tc_TB := tc_mem 4 (by decide +kernel) (by decide +kernel)
theorem ts_5 : Jvm.Cond.selects "TreeChanges$Tree" ⟨"TreeChanges$Tree", "openRow", "(LTreeChanges$Path;)I"⟩ ⟨"TreeChanges$Tree", "openRow", "(LTreeChanges$Path;)I"⟩ ∈ tc_TB := tc_mem 5 (by decide +kernel) (by decide +kernel)
theorem ts_6 : Jvm.Cond.selects "TreeChanges$Tree" ⟨"TreeChanges$Tree", "sinkRow", "(I)I"⟩ ⟨"TreeChanges$Tree", "sinkRow", "(I)I"⟩ ∈ tc_TB := tc_mem 6 (by decide +kernel) (by decide +kernel)
theorem ts_7 : Jvm.Cond.selects "TreeChanges$Tree" ⟨"TreeChanges$Tree", "deepest", "(LTreeChanges$Path;)I"⟩ ⟨"TreeChanges$Tree", "deepest", "(LTreeChanges$Path;)I"⟩ ∈ tc_TB := tc_mem 7 (by decide +kernel) (by decide +kernel)
theorem ts_8 : Jvm.Cond.selects "TreeChanges$Layer" ⟨"TreeChanges$Layer", "writeItem", "(ILTreeChanges$Entry;)V"⟩ ⟨"TreeChanges$Layer", "writeItem", "(ILTreeChanges$Entry;)V"⟩ ∈ tc_TB := tc_mem 8 (by decide +kernel) (by decide +kernel)
theorem ts_9 : Jvm.Cond.selects "TreeChanges$Layer" ⟨"TreeChanges$Layer", "append", "(I)V"⟩ ⟨"TreeChanges$Layer", "append", "(I)V"⟩ ∈ tc_TB := tc_mem 9 (by decide +kernel) (by decide +kernel)
theorem ts_10 : Jvm.Cond.selects "TreeChanges$Layer" ⟨"TreeChanges$Layer", "tellGone", "(LTreeChanges$Tree;ILTreeChanges$Tree;I)V"⟩ ⟨"TreeChanges$Layer", "tellGone", "(LTreeChanges$Tree;ILTreeChanges$Tree;I)V"⟩ ∈ tc_TB := tc_mem 10 (by decide +kernel) (by decide +kernel)
theorem ts_11 : Jvm.Cond.selects "TreeChanges$Layer" ⟨"TreeChanges$Layer", "tellKept", "(LTreeChanges$Entry;LTreeChanges$Entry;Z)V"⟩ ⟨"TreeChanges$Layer", "tellKept", "(LTreeChanges$Entry;LTreeChanges$Entry;Z)V"⟩ ∈ tc_TB := tc_mem 11 (by decide +kernel) (by decide +kernel)
theorem ts_12 : Jvm.Cond.selects "TreeChangesModel" ⟨"TreeChangesModel", "lay", "(IIII)Z"⟩ ⟨"TreeChangesModel", "lay", "(IIII)Z"⟩ ∈ tc_TB := tc_mem 12 (by decide +kernel) (by decide +kernel)
theorem ts_13 : Jvm.Cond.selects "TreeChangesModel" ⟨"TreeChangesModel", "find", "(II)I"⟩ ⟨"TreeChangesModel", "find", "(II)I"⟩ ∈ tc_TB := tc_mem 13 (by decide +kernel) (by decide +kernel)
theorem ts_14 : Jvm.Cond.selects "TreeChangesModel" ⟨"TreeChangesModel", "order", "(II)I"⟩ ⟨"TreeChangesModel", "order", "(II)I"⟩ ∈ tc_TB := tc_mem 14 (by decide +kernel) (by decide +kernel)
theorem ts_15 : Jvm.Cond.selects "TreeChangesModel" ⟨"TreeChangesModel", "mayStand", "(II)Z"⟩ ⟨"TreeChangesModel", "mayStand", "(II)Z"⟩ ∈ tc_TB := tc_mem 15 (by decide +kernel) (by decide +kernel)
theorem ts_16 : Jvm.Cond.selects "TreeChangesModel" ⟨"TreeChangesModel", "shorten", "(I)V"⟩ ⟨"TreeChangesModel", "shorten", "(I)V"⟩ ∈ tc_TB := tc_mem 16 (by decide +kernel) (by decide +kernel)
theorem ts_17 : Jvm.Cond.selects "TreeChangesModel" ⟨"TreeChangesModel", "copyPath", "(II)V"⟩ ⟨"TreeChangesModel", "copyPath", "(II)V"⟩ ∈ tc_TB := tc_mem 17 (by decide +kernel) (by decide +kernel)
theorem ts_18 : Jvm.Cond.selects "TreeChangesModel" ⟨"TreeChangesModel", "isDirectory", "(II)Z"⟩ ⟨"TreeChangesModel", "isDirectory", "(II)Z"⟩ ∈ tc_TB := tc_mem 18 (by decide +kernel) (by decide +kernel)
theorem ts_19 : Jvm.Cond.selects "TreeChangesModel" ⟨"TreeChangesModel", "fails", "(ZZZ)Z"⟩ ⟨"TreeChangesModel", "fails", "(ZZZ)Z"⟩ ∈ tc_TB := tc_mem 19 (by decide +kernel) (by decide +kernel)
theorem ts_20 : Jvm.Cond.selects "TreeChangesModel" ⟨"TreeChangesModel", "insert", "(III)I"⟩ ⟨"TreeChangesModel", "insert", "(III)I"⟩ ∈ tc_TB := tc_mem 20 (by decide +kernel) (by decide +kernel)
theorem ts_21 : Jvm.Cond.selects "TreeChangesModel" ⟨"TreeChangesModel", "shift", "(II)V"⟩ ⟨"TreeChangesModel", "shift", "(II)V"⟩ ∈ tc_TB := tc_mem 21 (by decide +kernel) (by decide +kernel)
theorem ts_22 : Jvm.Cond.selects "TreeChangesModel" ⟨"TreeChangesModel", "append", "(II)V"⟩ ⟨"TreeChangesModel", "append", "(II)V"⟩ ∈ tc_TB := tc_mem 22 (by decide +kernel) (by decide +kernel)
theorem ts_23 : Jvm.Cond.selects "TreeChangesModel" ⟨"TreeChangesModel", "clear", "(IIZ)V"⟩ ⟨"TreeChangesModel", "clear", "(IIZ)V"⟩ ∈ tc_TB := tc_mem 23 (by decide +kernel) (by decide +kernel)
theorem ts_24 : Jvm.Cond.selects "TreeChangesModel" ⟨"TreeChangesModel", "isBelow", "(II)Z"⟩ ⟨"TreeChangesModel", "isBelow", "(II)Z"⟩ ∈ tc_TB := tc_mem 24 (by decide +kernel) (by decide +kernel)
theorem ts_25 : Jvm.Cond.selects "TreeChangesModel" ⟨"TreeChangesModel", "longest", "(I)I"⟩ ⟨"TreeChangesModel", "longest", "(I)I"⟩ ∈ tc_TB := tc_mem 25 (by decide +kernel) (by decide +kernel)
theorem ts_26 : Jvm.Cond.selects "TreeChangesModel" ⟨"TreeChangesModel", "names", "(I)I"⟩ ⟨"TreeChangesModel", "names", "(I)I"⟩ ∈ tc_TB := tc_mem 26 (by decide +kernel) (by decide +kernel)
theorem ts_27 : Jvm.Cond.selects "TreeChangesModel" ⟨"TreeChangesModel", "become", "(II)V"⟩ ⟨"TreeChangesModel", "become", "(II)V"⟩ ∈ tc_TB := tc_mem 27 (by decide +kernel) (by decide +kernel)
theorem ts_28 : Jvm.Cond.selects "TreeChangesModel" ⟨"TreeChangesModel", "goes", "(II)V"⟩ ⟨"TreeChangesModel", "goes", "(II)V"⟩ ∈ tc_TB := tc_mem 28 (by decide +kernel) (by decide +kernel)
theorem ts_29 : Jvm.Cond.selects "TreeChangesModel" ⟨"TreeChangesModel", "isEmptied", "(II)Z"⟩ ⟨"TreeChangesModel", "isEmptied", "(II)Z"⟩ ∈ tc_TB := tc_mem 29 (by decide +kernel) (by decide +kernel)
theorem ts_30 : Jvm.Cond.selects "TreeChangesModel" ⟨"TreeChangesModel", "item", "(II)V"⟩ ⟨"TreeChangesModel", "item", "(II)V"⟩ ∈ tc_TB := tc_mem 30 (by decide +kernel) (by decide +kernel)
theorem ts_31 : Jvm.Cond.selects "TreeChangesModel" ⟨"TreeChangesModel", "put", "(I)V"⟩ ⟨"TreeChangesModel", "put", "(I)V"⟩ ∈ tc_TB := tc_mem 31 (by decide +kernel) (by decide +kernel)
theorem ts_32 : Jvm.Cond.selects "TreeChangesModel" ⟨"TreeChangesModel", "comes", "(II)V"⟩ ⟨"TreeChangesModel", "comes", "(II)V"⟩ ∈ tc_TB := tc_mem 32 (by decide +kernel) (by decide +kernel)
theorem ts_33 : Jvm.Cond.selects "TreeChangesModel" ⟨"TreeChangesModel", "isAlike", "(II)Z"⟩ ⟨"TreeChangesModel", "isAlike", "(II)Z"⟩ ∈ tc_TB := tc_mem 33 (by decide +kernel) (by decide +kernel)
theorem ts_34 : Jvm.Cond.selects "TreeChangesModel" ⟨"TreeChangesModel", "done", "(III)Z"⟩ ⟨"TreeChangesModel", "done", "(III)Z"⟩ ∈ tc_TB := tc_mem 34 (by decide +kernel) (by decide +kernel)
theorem tw_0 : (Jvm.Cond.initialized "TreeChangesLaw") ∈ tc_TB := tc_mem 35 (by decide +kernel) (by decide +kernel)
theorem tw_1 : (Jvm.Cond.initialized "TreeChanges") ∈ tc_TB := tc_mem 36 (by decide +kernel) (by decide +kernel)
theorem tw_2 : (Jvm.Cond.initialized "TreeChanges$Tree") ∈ tc_TB := tc_mem 37 (by decide +kernel) (by decide +kernel)
theorem tw_3 : (Jvm.Cond.initialized "TreeChanges$Entry") ∈ tc_TB := tc_mem 38 (by decide +kernel) (by decide +kernel)
theorem tw_4 : (Jvm.Cond.initialized "TreeChanges$Path") ∈ tc_TB := tc_mem 39 (by decide +kernel) (by decide +kernel)
theorem tw_5 : (Jvm.Cond.initialized "TreeChanges$Layer") ∈ tc_TB := tc_mem 40 (by decide +kernel) (by decide +kernel)
theorem tw_6 : (Jvm.Cond.initialized "TreeChangesModel") ∈ tc_TB := tc_mem 41 (by decide +kernel) (by decide +kernel)
theorem tw_7 : (Jvm.Cond.initialized "java/lang/Throwable") ∈ tc_TB := tc_mem 42 (by decide +kernel) (by decide +kernel)
theorem tw_8 : (Jvm.Cond.initialized "java/lang/Exception") ∈ tc_TB := tc_mem 43 (by decide +kernel) (by decide +kernel)
theorem tw_9 : (Jvm.Cond.initialized "java/lang/RuntimeException") ∈ tc_TB := tc_mem 44 (by decide +kernel) (by decide +kernel)
theorem tw_10 : (Jvm.Cond.initialized "java/lang/IllegalArgumentException") ∈ tc_TB := tc_mem 45 (by decide +kernel) (by decide +kernel)
theorem tw_11 : (Jvm.Cond.initialized "java/lang/IllegalStateException") ∈ tc_TB := tc_mem 46 (by decide +kernel) (by decide +kernel)
theorem tw_12 : (Jvm.Cond.initialized "java/lang/UnsupportedOperationException") ∈ tc_TB := tc_mem 47 (by decide +kernel) (by decide +kernel)
theorem tw_13 : (Jvm.Cond.initialized "java/lang/System") ∈ tc_TB := tc_mem 48 (by decide +kernel) (by decide +kernel)
theorem tw_14 : (Jvm.Cond.initialized "java/lang/Math") ∈ tc_TB := tc_mem 49 (by decide +kernel) (by decide +kernel)
theorem tw_15 : (Jvm.Cond.initialized "java/lang/IndexOutOfBoundsException") ∈ tc_TB := tc_mem 50 (by decide +kernel) (by decide +kernel)
theorem tw_16 : (Jvm.Cond.classLink "TreeChangesLaw" (8 : Nat) "TreeChanges") ∈ tc_TB := tc_mem 51 (by decide +kernel) (by decide +kernel)
theorem tw_17 : (Jvm.Cond.instantiable "TreeChanges" (7 : Nat)) ∈ tc_TB := tc_mem 52 (by decide +kernel) (by decide +kernel)
theorem tw_18 : (Jvm.Cond.methodLink "TreeChangesLaw" (55 : Nat) ({ cls := "TreeChanges", name := "<init>", desc := "()V" } : Jvm.MethodName)) ∈ tc_TB := tc_mem 53 (by decide +kernel) (by decide +kernel)
theorem tw_19 : (Jvm.Cond.instanceMethod ({ cls := "TreeChanges", name := "<init>", desc := "()V" } : Jvm.MethodName)) ∈ tc_TB := tc_mem 54 (by decide +kernel) (by decide +kernel)
theorem tw_20 : (Jvm.Cond.code ({ cls := "TreeChanges", name := "<init>", desc := "()V" } : Jvm.MethodName) prog_1_method_1_code (1 : Nat) (Option.none : Option Jvm.ClassFile.FieldType)) ∈ tc_TB := tc_mem 55 (by decide +kernel) (by decide +kernel)
theorem tw_21 : (Jvm.Cond.methodLink "TreeChanges" (3 : Nat) ({ cls := "java/lang/Object", name := "<init>", desc := "()V" } : Jvm.MethodName)) ∈ tc_TB := tc_mem 56 (by decide +kernel) (by decide +kernel)
theorem tw_22 : (Jvm.Cond.instanceMethod ({ cls := "java/lang/Object", name := "<init>", desc := "()V" } : Jvm.MethodName)) ∈ tc_TB := tc_mem 57 (by decide +kernel) (by decide +kernel)
theorem tw_23 : (Jvm.Cond.code ({ cls := "java/lang/Object", name := "<init>", desc := "()V" } : Jvm.MethodName) object_method_1_code (1 : Nat) (Option.none : Option Jvm.ClassFile.FieldType)) ∈ tc_TB := tc_mem 58 (by decide +kernel) (by decide +kernel)
theorem tw_24 : (Jvm.Cond.classLink "TreeChanges" (9 : Nat) "TreeChanges$Tree") ∈ tc_TB := tc_mem 59 (by decide +kernel) (by decide +kernel)
theorem tw_25 : (Jvm.Cond.instantiable "TreeChanges$Tree" (2 : Nat)) ∈ tc_TB := tc_mem 60 (by decide +kernel) (by decide +kernel)
theorem tw_26 : (Jvm.Cond.methodLink "TreeChanges" (11 : Nat) ({ cls := "TreeChanges$Tree", name := "<init>", desc := "()V" } : Jvm.MethodName)) ∈ tc_TB := tc_mem 61 (by decide +kernel) (by decide +kernel)
theorem tw_27 : (Jvm.Cond.instanceMethod ({ cls := "TreeChanges$Tree", name := "<init>", desc := "()V" } : Jvm.MethodName)) ∈ tc_TB := tc_mem 62 (by decide +kernel) (by decide +kernel)
theorem tw_28 : (Jvm.Cond.code ({ cls := "TreeChanges$Tree", name := "<init>", desc := "()V" } : Jvm.MethodName) prog_5_method_1_code (2 : Nat) (Option.none : Option Jvm.ClassFile.FieldType)) ∈ tc_TB := tc_mem 63 (by decide +kernel) (by decide +kernel)
theorem tw_29 : (Jvm.Cond.methodLink "TreeChanges$Tree" (3 : Nat) ({ cls := "java/lang/Object", name := "<init>", desc := "()V" } : Jvm.MethodName)) ∈ tc_TB := tc_mem 64 (by decide +kernel) (by decide +kernel)
theorem tw_30 : (Jvm.Cond.classLink "TreeChanges$Tree" (9 : Nat) "TreeChanges$Entry") ∈ tc_TB := tc_mem 65 (by decide +kernel) (by decide +kernel)
theorem tw_32 : (Jvm.Cond.instantiable "TreeChanges$Entry" (4 : Nat)) ∈ tc_TB := tc_mem 67 (by decide +kernel) (by decide +kernel)
theorem tw_33 : (Jvm.Cond.methodLinkNest "TreeChanges$Tree" (17 : Nat) ({ cls := "TreeChanges$Entry", name := "<init>", desc := "()V" } : Jvm.MethodName) "TreeChanges") ∈ tc_TB := tc_mem 68 (by decide +kernel) (by decide +kernel)
theorem tw_34 : (Jvm.Cond.instanceMethod ({ cls := "TreeChanges$Entry", name := "<init>", desc := "()V" } : Jvm.MethodName)) ∈ tc_TB := tc_mem 69 (by decide +kernel) (by decide +kernel)
theorem tw_35 : (Jvm.Cond.code ({ cls := "TreeChanges$Entry", name := "<init>", desc := "()V" } : Jvm.MethodName) prog_2_method_1_code (1 : Nat) (Option.none : Option Jvm.ClassFile.FieldType)) ∈ tc_TB := tc_mem 70 (by decide +kernel) (by decide +kernel)
theorem tw_36 : (Jvm.Cond.methodLink "TreeChanges$Entry" (3 : Nat) ({ cls := "java/lang/Object", name := "<init>", desc := "()V" } : Jvm.MethodName)) ∈ tc_TB := tc_mem 71 (by decide +kernel) (by decide +kernel)
theorem tw_37 : (Jvm.Cond.classLink "TreeChanges$Entry" (9 : Nat) "TreeChanges$Path") ∈ tc_TB := tc_mem 72 (by decide +kernel) (by decide +kernel)
theorem tw_38 : (Jvm.Cond.instantiable "TreeChanges$Path" (2 : Nat)) ∈ tc_TB := tc_mem 73 (by decide +kernel) (by decide +kernel)
theorem tw_39 : (Jvm.Cond.methodLinkNest "TreeChanges$Entry" (11 : Nat) ({ cls := "TreeChanges$Path", name := "<init>", desc := "()V" } : Jvm.MethodName) "TreeChanges") ∈ tc_TB := tc_mem 74 (by decide +kernel) (by decide +kernel)
theorem tw_40 : (Jvm.Cond.instanceMethod ({ cls := "TreeChanges$Path", name := "<init>", desc := "()V" } : Jvm.MethodName)) ∈ tc_TB := tc_mem 75 (by decide +kernel) (by decide +kernel)
theorem tw_41 : (Jvm.Cond.code ({ cls := "TreeChanges$Path", name := "<init>", desc := "()V" } : Jvm.MethodName) prog_4_method_1_code (1 : Nat) (Option.none : Option Jvm.ClassFile.FieldType)) ∈ tc_TB := tc_mem 76 (by decide +kernel) (by decide +kernel)
theorem tw_42 : (Jvm.Cond.methodLink "TreeChanges$Path" (3 : Nat) ({ cls := "java/lang/Object", name := "<init>", desc := "()V" } : Jvm.MethodName)) ∈ tc_TB := tc_mem 77 (by decide +kernel) (by decide +kernel)
theorem tw_43 : (Jvm.Cond.fieldLink "TreeChanges$Path" (9 : Nat) "TreeChanges$Path" "signs" "[B") ∈ tc_TB := tc_mem 78 (by decide +kernel) (by decide +kernel)
theorem tw_44 : (Jvm.Cond.fieldLink "TreeChanges$Path" (15 : Nat) "TreeChanges$Path" "length" "I") ∈ tc_TB := tc_mem 79 (by decide +kernel) (by decide +kernel)
theorem tw_45 : (Jvm.Cond.fieldLinkNest "TreeChanges$Tree" (22 : Nat) "TreeChanges$Path" "length" "I" "TreeChanges") ∈ tc_TB := tc_mem 80 (by decide +kernel) (by decide +kernel)
theorem tw_46 : (Jvm.Cond.fieldLinkNest "TreeChanges$Layer" (32 : Nat) "TreeChanges$Path" "length" "I" "TreeChanges") ∈ tc_TB := tc_mem 81 (by decide +kernel) (by decide +kernel)
theorem tw_47 : (Jvm.Cond.laysFinal "TreeChanges$Path" "TreeChanges$Path" "signs" "[B") ∈ tc_TB := tc_mem 82 (by decide +kernel) (by decide +kernel)
theorem tw_49 : (Jvm.Cond.lays "TreeChanges$Path" "TreeChanges$Path" "length" "I") ∈ tc_TB := tc_mem 84 (by decide +kernel) (by decide +kernel)
theorem tw_52 : (Jvm.Cond.arrayClass Jvm.ClassFile.FieldType.byte) ∈ tc_TB := tc_mem 87 (by decide +kernel) (by decide +kernel)
theorem tw_53 : (Jvm.Cond.fieldLink "TreeChanges$Entry" (12 : Nat) "TreeChanges$Entry" "path" "LTreeChanges$Path;") ∈ tc_TB := tc_mem 88 (by decide +kernel) (by decide +kernel)
theorem tw_54 : (Jvm.Cond.fieldLinkNest "TreeChanges$Tree" (31 : Nat) "TreeChanges$Entry" "path" "LTreeChanges$Path;" "TreeChanges") ∈ tc_TB := tc_mem 89 (by decide +kernel) (by decide +kernel)
theorem tw_55 : (Jvm.Cond.fieldLinkNest "TreeChanges$Layer" (28 : Nat) "TreeChanges$Entry" "path" "LTreeChanges$Path;" "TreeChanges") ∈ tc_TB := tc_mem 90 (by decide +kernel) (by decide +kernel)
theorem tw_56 : (Jvm.Cond.fieldLink "TreeChanges$Entry" (26 : Nat) "TreeChanges$Entry" "kind" "I") ∈ tc_TB := tc_mem 91 (by decide +kernel) (by decide +kernel)
theorem tw_57 : (Jvm.Cond.fieldLinkNest "TreeChanges$Tree" (42 : Nat) "TreeChanges$Entry" "kind" "I" "TreeChanges") ∈ tc_TB := tc_mem 92 (by decide +kernel) (by decide +kernel)
theorem tw_58 : (Jvm.Cond.fieldLinkNest "TreeChanges" (104 : Nat) "TreeChanges$Entry" "kind" "I" "TreeChanges") ∈ tc_TB := tc_mem 93 (by decide +kernel) (by decide +kernel)
theorem tw_59 : (Jvm.Cond.fieldLinkNest "TreeChanges$Layer" (46 : Nat) "TreeChanges$Entry" "kind" "I" "TreeChanges") ∈ tc_TB := tc_mem 94 (by decide +kernel) (by decide +kernel)
theorem tw_60 : (Jvm.Cond.fieldLink "TreeChanges$Entry" (18 : Nat) "TreeChanges$Entry" "bytes" "[B") ∈ tc_TB := tc_mem 95 (by decide +kernel) (by decide +kernel)
theorem tw_61 : (Jvm.Cond.fieldLink "TreeChanges$Entry" (30 : Nat) "TreeChanges$Entry" "size" "I") ∈ tc_TB := tc_mem 96 (by decide +kernel) (by decide +kernel)
theorem tw_62 : (Jvm.Cond.fieldLinkNest "TreeChanges$Layer" (19 : Nat) "TreeChanges$Entry" "size" "I" "TreeChanges") ∈ tc_TB := tc_mem 97 (by decide +kernel) (by decide +kernel)
theorem tw_63 : (Jvm.Cond.fieldLinkNest "TreeChanges" (110 : Nat) "TreeChanges$Entry" "size" "I" "TreeChanges") ∈ tc_TB := tc_mem 98 (by decide +kernel) (by decide +kernel)
theorem tw_64 : (Jvm.Cond.laysFinal "TreeChanges$Entry" "TreeChanges$Entry" "path" "LTreeChanges$Path;") ∈ tc_TB := tc_mem 99 (by decide +kernel) (by decide +kernel)
theorem tw_66 : (Jvm.Cond.lays "TreeChanges$Entry" "TreeChanges$Entry" "kind" "I") ∈ tc_TB := tc_mem 101 (by decide +kernel) (by decide +kernel)
theorem tw_68 : (Jvm.Cond.laysFinal "TreeChanges$Entry" "TreeChanges$Entry" "bytes" "[B") ∈ tc_TB := tc_mem 103 (by decide +kernel) (by decide +kernel)
theorem tw_70 : (Jvm.Cond.lays "TreeChanges$Entry" "TreeChanges$Entry" "size" "I") ∈ tc_TB := tc_mem 105 (by decide +kernel) (by decide +kernel)
theorem tw_73 : (Jvm.Cond.fieldLink "TreeChanges$Tree" (11 : Nat) "TreeChanges$Tree" "rows" "[LTreeChanges$Entry;") ∈ tc_TB := tc_mem 108 (by decide +kernel) (by decide +kernel)
theorem tw_74 : (Jvm.Cond.fieldLinkNest "TreeChanges" (100 : Nat) "TreeChanges$Tree" "rows" "[LTreeChanges$Entry;" "TreeChanges") ∈ tc_TB := tc_mem 109 (by decide +kernel) (by decide +kernel)
theorem tw_75 : (Jvm.Cond.fieldLinkNest "TreeChanges$Layer" (63 : Nat) "TreeChanges$Tree" "rows" "[LTreeChanges$Entry;" "TreeChanges") ∈ tc_TB := tc_mem 110 (by decide +kernel) (by decide +kernel)
theorem tw_76 : (Jvm.Cond.fieldLink "TreeChanges$Tree" (18 : Nat) "TreeChanges$Tree" "count" "I") ∈ tc_TB := tc_mem 111 (by decide +kernel) (by decide +kernel)
theorem tw_77 : (Jvm.Cond.fieldLinkNest "TreeChanges$Layer" (54 : Nat) "TreeChanges$Tree" "count" "I" "TreeChanges") ∈ tc_TB := tc_mem 112 (by decide +kernel) (by decide +kernel)
theorem tw_78 : (Jvm.Cond.fieldLinkNest "TreeChanges" (175 : Nat) "TreeChanges$Tree" "count" "I" "TreeChanges") ∈ tc_TB := tc_mem 113 (by decide +kernel) (by decide +kernel)
theorem tw_79 : (Jvm.Cond.laysFinal "TreeChanges$Tree" "TreeChanges$Tree" "rows" "[LTreeChanges$Entry;") ∈ tc_TB := tc_mem 114 (by decide +kernel) (by decide +kernel)
theorem tw_81 : (Jvm.Cond.lays "TreeChanges$Tree" "TreeChanges$Tree" "count" "I") ∈ tc_TB := tc_mem 116 (by decide +kernel) (by decide +kernel)
theorem tw_84 : (Jvm.Cond.classLink "TreeChanges" (22 : Nat) "TreeChanges$Path") ∈ tc_TB := tc_mem 119 (by decide +kernel) (by decide +kernel)
theorem tw_85 : (Jvm.Cond.methodLinkNest "TreeChanges" (24 : Nat) ({ cls := "TreeChanges$Path", name := "<init>", desc := "()V" } : Jvm.MethodName) "TreeChanges") ∈ tc_TB := tc_mem 120 (by decide +kernel) (by decide +kernel)
theorem tw_86 : (Jvm.Cond.classLink "TreeChanges" (32 : Nat) "TreeChanges$Entry") ∈ tc_TB := tc_mem 121 (by decide +kernel) (by decide +kernel)
theorem tw_87 : (Jvm.Cond.methodLinkNest "TreeChanges" (34 : Nat) ({ cls := "TreeChanges$Entry", name := "<init>", desc := "()V" } : Jvm.MethodName) "TreeChanges") ∈ tc_TB := tc_mem 122 (by decide +kernel) (by decide +kernel)
theorem tw_88 : (Jvm.Cond.classLink "TreeChanges" (39 : Nat) "TreeChanges$Layer") ∈ tc_TB := tc_mem 123 (by decide +kernel) (by decide +kernel)
theorem tw_89 : (Jvm.Cond.instantiable "TreeChanges$Layer" (3 : Nat)) ∈ tc_TB := tc_mem 124 (by decide +kernel) (by decide +kernel)
theorem tw_90 : (Jvm.Cond.methodLinkNest "TreeChanges" (41 : Nat) ({ cls := "TreeChanges$Layer", name := "<init>", desc := "()V" } : Jvm.MethodName) "TreeChanges") ∈ tc_TB := tc_mem 125 (by decide +kernel) (by decide +kernel)
theorem tw_91 : (Jvm.Cond.instanceMethod ({ cls := "TreeChanges$Layer", name := "<init>", desc := "()V" } : Jvm.MethodName)) ∈ tc_TB := tc_mem 126 (by decide +kernel) (by decide +kernel)
theorem tw_92 : (Jvm.Cond.code ({ cls := "TreeChanges$Layer", name := "<init>", desc := "()V" } : Jvm.MethodName) prog_3_method_1_code (1 : Nat) (Option.none : Option Jvm.ClassFile.FieldType)) ∈ tc_TB := tc_mem 127 (by decide +kernel) (by decide +kernel)
theorem tw_93 : (Jvm.Cond.methodLink "TreeChanges$Layer" (3 : Nat) ({ cls := "java/lang/Object", name := "<init>", desc := "()V" } : Jvm.MethodName)) ∈ tc_TB := tc_mem 128 (by decide +kernel) (by decide +kernel)
theorem tw_94 : (Jvm.Cond.fieldLink "TreeChanges$Layer" (9 : Nat) "TreeChanges$Layer" "bytes" "[B") ∈ tc_TB := tc_mem 129 (by decide +kernel) (by decide +kernel)
theorem tw_95 : (Jvm.Cond.fieldLink "TreeChanges$Layer" (15 : Nat) "TreeChanges$Layer" "length" "I") ∈ tc_TB := tc_mem 130 (by decide +kernel) (by decide +kernel)
theorem tw_96 : (Jvm.Cond.fieldLinkNest "TreeChanges" (148 : Nat) "TreeChanges$Layer" "length" "I" "TreeChanges") ∈ tc_TB := tc_mem 131 (by decide +kernel) (by decide +kernel)
theorem tw_97 : (Jvm.Cond.fieldLink "TreeChanges$Layer" (42 : Nat) "TreeChanges$Layer" "items" "I") ∈ tc_TB := tc_mem 132 (by decide +kernel) (by decide +kernel)
theorem tw_98 : (Jvm.Cond.fieldLinkNest "TreeChanges" (159 : Nat) "TreeChanges$Layer" "items" "I" "TreeChanges") ∈ tc_TB := tc_mem 133 (by decide +kernel) (by decide +kernel)
theorem tw_99 : (Jvm.Cond.laysFinal "TreeChanges$Layer" "TreeChanges$Layer" "bytes" "[B") ∈ tc_TB := tc_mem 134 (by decide +kernel) (by decide +kernel)
theorem tw_101 : (Jvm.Cond.lays "TreeChanges$Layer" "TreeChanges$Layer" "length" "I") ∈ tc_TB := tc_mem 136 (by decide +kernel) (by decide +kernel)
theorem tw_103 : (Jvm.Cond.lays "TreeChanges$Layer" "TreeChanges$Layer" "items" "I") ∈ tc_TB := tc_mem 138 (by decide +kernel) (by decide +kernel)
theorem tw_106 : (Jvm.Cond.fieldLink "TreeChanges" (12 : Nat) "TreeChanges" "tree0" "LTreeChanges$Tree;") ∈ tc_TB := tc_mem 141 (by decide +kernel) (by decide +kernel)
theorem tw_107 : (Jvm.Cond.fieldLink "TreeChanges" (16 : Nat) "TreeChanges" "tree1" "LTreeChanges$Tree;") ∈ tc_TB := tc_mem 142 (by decide +kernel) (by decide +kernel)
theorem tw_108 : (Jvm.Cond.fieldLink "TreeChanges" (19 : Nat) "TreeChanges" "trial" "LTreeChanges$Tree;") ∈ tc_TB := tc_mem 143 (by decide +kernel) (by decide +kernel)
theorem tw_109 : (Jvm.Cond.fieldLink "TreeChanges" (25 : Nat) "TreeChanges" "thePath" "LTreeChanges$Path;") ∈ tc_TB := tc_mem 144 (by decide +kernel) (by decide +kernel)
theorem tw_110 : (Jvm.Cond.fieldLink "TreeChanges" (29 : Nat) "TreeChanges" "otherPath" "LTreeChanges$Path;") ∈ tc_TB := tc_mem 145 (by decide +kernel) (by decide +kernel)
theorem tw_111 : (Jvm.Cond.fieldLink "TreeChanges" (35 : Nat) "TreeChanges" "item" "LTreeChanges$Entry;") ∈ tc_TB := tc_mem 146 (by decide +kernel) (by decide +kernel)
theorem tw_112 : (Jvm.Cond.fieldLink "TreeChanges" (42 : Nat) "TreeChanges" "theLayer" "LTreeChanges$Layer;") ∈ tc_TB := tc_mem 147 (by decide +kernel) (by decide +kernel)
theorem tw_113 : (Jvm.Cond.laysFinal "TreeChanges" "TreeChanges" "tree0" "LTreeChanges$Tree;") ∈ tc_TB := tc_mem 148 (by decide +kernel) (by decide +kernel)
theorem tw_115 : (Jvm.Cond.laysFinal "TreeChanges" "TreeChanges" "tree1" "LTreeChanges$Tree;") ∈ tc_TB := tc_mem 150 (by decide +kernel) (by decide +kernel)
theorem tw_117 : (Jvm.Cond.laysFinal "TreeChanges" "TreeChanges" "trial" "LTreeChanges$Tree;") ∈ tc_TB := tc_mem 152 (by decide +kernel) (by decide +kernel)
theorem tw_119 : (Jvm.Cond.laysFinal "TreeChanges" "TreeChanges" "thePath" "LTreeChanges$Path;") ∈ tc_TB := tc_mem 154 (by decide +kernel) (by decide +kernel)
theorem tw_121 : (Jvm.Cond.laysFinal "TreeChanges" "TreeChanges" "otherPath" "LTreeChanges$Path;") ∈ tc_TB := tc_mem 156 (by decide +kernel) (by decide +kernel)
theorem tw_123 : (Jvm.Cond.laysFinal "TreeChanges" "TreeChanges" "item" "LTreeChanges$Entry;") ∈ tc_TB := tc_mem 158 (by decide +kernel) (by decide +kernel)
theorem tw_125 : (Jvm.Cond.laysFinal "TreeChanges" "TreeChanges" "theLayer" "LTreeChanges$Layer;") ∈ tc_TB := tc_mem 160 (by decide +kernel) (by decide +kernel)
theorem tw_128 : (Jvm.Cond.methodLink "TreeChangesLaw" (59 : Nat) ({ cls := "TreeChanges", name := "path", desc := "(III)Z" } : Jvm.MethodName)) ∈ tc_TB := tc_mem 163 (by decide +kernel) (by decide +kernel)
theorem tw_129 : (Jvm.Cond.instanceMethod ({ cls := "TreeChanges", name := "path", desc := "(III)Z" } : Jvm.MethodName)) ∈ tc_TB := tc_mem 164 (by decide +kernel) (by decide +kernel)
theorem tw_130 : (Jvm.Cond.selects "TreeChanges" ({ cls := "TreeChanges", name := "path", desc := "(III)Z" } : Jvm.MethodName) ({ cls := "TreeChanges", name := "path", desc := "(III)Z" } : Jvm.MethodName)) ∈ tc_TB := tc_mem 165 (by decide +kernel) (by decide +kernel)
theorem tw_131 : (Jvm.Cond.code ({ cls := "TreeChanges", name := "path", desc := "(III)Z" } : Jvm.MethodName) prog_1_method_2_code (4 : Nat) (Option.some Jvm.ClassFile.FieldType.boolean)) ∈ tc_TB := tc_mem 166 (by decide +kernel) (by decide +kernel)
theorem tw_132 : (Jvm.Cond.methodLink "TreeChanges" (46 : Nat) ({ cls := "TreeChanges$Path", name := "readSigns", desc := "(III)Z" } : Jvm.MethodName)) ∈ tc_TB := tc_mem 167 (by decide +kernel) (by decide +kernel)
theorem tw_133 : (Jvm.Cond.instanceMethod ({ cls := "TreeChanges$Path", name := "readSigns", desc := "(III)Z" } : Jvm.MethodName)) ∈ tc_TB := tc_mem 168 (by decide +kernel) (by decide +kernel)
theorem tw_134 : (Jvm.Cond.selects "TreeChanges$Path" ({ cls := "TreeChanges$Path", name := "readSigns", desc := "(III)Z" } : Jvm.MethodName) ({ cls := "TreeChanges$Path", name := "readSigns", desc := "(III)Z" } : Jvm.MethodName)) ∈ tc_TB := tc_mem 169 (by decide +kernel) (by decide +kernel)
theorem tw_135 : (Jvm.Cond.code ({ cls := "TreeChanges$Path", name := "readSigns", desc := "(III)Z" } : Jvm.MethodName) prog_4_method_6_code (4 : Nat) (Option.some Jvm.ClassFile.FieldType.boolean)) ∈ tc_TB := tc_mem 170 (by decide +kernel) (by decide +kernel)
theorem tw_136 : (Jvm.Cond.methodLink "TreeChanges$Path" (25 : Nat) ({ cls := "TreeChanges$Path", name := "clear", desc := "()V" } : Jvm.MethodName)) ∈ tc_TB := tc_mem 171 (by decide +kernel) (by decide +kernel)
theorem tw_137 : (Jvm.Cond.instanceMethod ({ cls := "TreeChanges$Path", name := "clear", desc := "()V" } : Jvm.MethodName)) ∈ tc_TB := tc_mem 172 (by decide +kernel) (by decide +kernel)
theorem tw_138 : (Jvm.Cond.selects "TreeChanges$Path" ({ cls := "TreeChanges$Path", name := "clear", desc := "()V" } : Jvm.MethodName) ({ cls := "TreeChanges$Path", name := "clear", desc := "()V" } : Jvm.MethodName)) ∈ tc_TB := tc_mem 173 (by decide +kernel) (by decide +kernel)
theorem tw_139 : (Jvm.Cond.code ({ cls := "TreeChanges$Path", name := "clear", desc := "()V" } : Jvm.MethodName) prog_4_method_3_code (1 : Nat) (Option.none : Option Jvm.ClassFile.FieldType)) ∈ tc_TB := tc_mem 174 (by decide +kernel) (by decide +kernel)
theorem tw_140 : (Jvm.Cond.methodLink "TreeChanges$Path" (28 : Nat) ({ cls := "TreeChanges$Path", name := "appendWord", desc := "(I)V" } : Jvm.MethodName)) ∈ tc_TB := tc_mem 175 (by decide +kernel) (by decide +kernel)
theorem tw_142 : (Jvm.Cond.instanceMethod ({ cls := "TreeChanges$Path", name := "appendWord", desc := "(I)V" } : Jvm.MethodName)) ∈ tc_TB := tc_mem 177 (by decide +kernel) (by decide +kernel)
theorem tw_143 : (Jvm.Cond.code ({ cls := "TreeChanges$Path", name := "appendWord", desc := "(I)V" } : Jvm.MethodName) prog_4_method_7_code (4 : Nat) (Option.none : Option Jvm.ClassFile.FieldType)) ∈ tc_TB := tc_mem 178 (by decide +kernel) (by decide +kernel)
theorem tw_144 : (Jvm.Cond.methodLinkNest "TreeChanges$Path" (39 : Nat) ({ cls := "TreeChanges", name := "byteOf", desc := "(II)I" } : Jvm.MethodName) "TreeChanges") ∈ tc_TB := tc_mem 179 (by decide +kernel) (by decide +kernel)
theorem tw_145 : (Jvm.Cond.static ({ cls := "TreeChanges", name := "byteOf", desc := "(II)I" } : Jvm.MethodName)) ∈ tc_TB := tc_mem 180 (by decide +kernel) (by decide +kernel)
theorem tw_146 : (Jvm.Cond.code ({ cls := "TreeChanges", name := "byteOf", desc := "(II)I" } : Jvm.MethodName) prog_1_method_17_code (2 : Nat) (Option.some Jvm.ClassFile.FieldType.int)) ∈ tc_TB := tc_mem 181 (by decide +kernel) (by decide +kernel)
theorem tw_147 : (Jvm.Cond.methodLink "TreeChanges$Path" (43 : Nat) ({ cls := "TreeChanges$Path", name := "append", desc := "(I)V" } : Jvm.MethodName)) ∈ tc_TB := tc_mem 182 (by decide +kernel) (by decide +kernel)
theorem tw_148 : (Jvm.Cond.instanceMethod ({ cls := "TreeChanges$Path", name := "append", desc := "(I)V" } : Jvm.MethodName)) ∈ tc_TB := tc_mem 183 (by decide +kernel) (by decide +kernel)
theorem tw_149 : (Jvm.Cond.selects "TreeChanges$Path" ({ cls := "TreeChanges$Path", name := "append", desc := "(I)V" } : Jvm.MethodName) ({ cls := "TreeChanges$Path", name := "append", desc := "(I)V" } : Jvm.MethodName)) ∈ tc_TB := tc_mem 184 (by decide +kernel) (by decide +kernel)
theorem tw_150 : (Jvm.Cond.code ({ cls := "TreeChanges$Path", name := "append", desc := "(I)V" } : Jvm.MethodName) prog_4_method_4_code (2 : Nat) (Option.none : Option Jvm.ClassFile.FieldType)) ∈ tc_TB := tc_mem 185 (by decide +kernel) (by decide +kernel)
theorem tw_151 : (Jvm.Cond.methodLink "TreeChanges$Path" (32 : Nat) ({ cls := "TreeChanges$Path", name := "isWellFormed", desc := "()Z" } : Jvm.MethodName)) ∈ tc_TB := tc_mem 186 (by decide +kernel) (by decide +kernel)
theorem tw_153 : (Jvm.Cond.instanceMethod ({ cls := "TreeChanges$Path", name := "isWellFormed", desc := "()Z" } : Jvm.MethodName)) ∈ tc_TB := tc_mem 188 (by decide +kernel) (by decide +kernel)
theorem tw_154 : (Jvm.Cond.code ({ cls := "TreeChanges$Path", name := "isWellFormed", desc := "()Z" } : Jvm.MethodName) prog_4_method_8_code (4 : Nat) (Option.some Jvm.ClassFile.FieldType.boolean)) ∈ tc_TB := tc_mem 189 (by decide +kernel) (by decide +kernel)
theorem tw_155 : (Jvm.Cond.methodLink "TreeChanges$Path" (46 : Nat) ({ cls := "TreeChanges$Path", name := "signAt", desc := "(I)I" } : Jvm.MethodName)) ∈ tc_TB := tc_mem 190 (by decide +kernel) (by decide +kernel)
theorem tw_156 : (Jvm.Cond.instanceMethod ({ cls := "TreeChanges$Path", name := "signAt", desc := "(I)I" } : Jvm.MethodName)) ∈ tc_TB := tc_mem 191 (by decide +kernel) (by decide +kernel)
theorem tw_157 : (Jvm.Cond.selects "TreeChanges$Path" ({ cls := "TreeChanges$Path", name := "signAt", desc := "(I)I" } : Jvm.MethodName) ({ cls := "TreeChanges$Path", name := "signAt", desc := "(I)I" } : Jvm.MethodName)) ∈ tc_TB := tc_mem 192 (by decide +kernel) (by decide +kernel)
theorem tw_158 : (Jvm.Cond.code ({ cls := "TreeChanges$Path", name := "signAt", desc := "(I)I" } : Jvm.MethodName) prog_4_method_10_code (2 : Nat) (Option.some Jvm.ClassFile.FieldType.int)) ∈ tc_TB := tc_mem 193 (by decide +kernel) (by decide +kernel)
theorem tw_159 : (Jvm.Cond.methodLink "TreeChanges$Path" (50 : Nat) ({ cls := "TreeChanges$Path", name := "isNameSign", desc := "(I)Z" } : Jvm.MethodName)) ∈ tc_TB := tc_mem 194 (by decide +kernel) (by decide +kernel)
theorem tw_160 : (Jvm.Cond.static ({ cls := "TreeChanges$Path", name := "isNameSign", desc := "(I)Z" } : Jvm.MethodName)) ∈ tc_TB := tc_mem 195 (by decide +kernel) (by decide +kernel)
theorem tw_161 : (Jvm.Cond.code ({ cls := "TreeChanges$Path", name := "isNameSign", desc := "(I)Z" } : Jvm.MethodName) prog_4_method_9_code (1 : Nat) (Option.some Jvm.ClassFile.FieldType.boolean)) ∈ tc_TB := tc_mem 196 (by decide +kernel) (by decide +kernel)
theorem tw_162 : (Jvm.Cond.methodLink "TreeChanges$Path" (54 : Nat) ({ cls := "TreeChanges$Path", name := "names", desc := "()I" } : Jvm.MethodName)) ∈ tc_TB := tc_mem 197 (by decide +kernel) (by decide +kernel)
theorem tw_163 : (Jvm.Cond.instanceMethod ({ cls := "TreeChanges$Path", name := "names", desc := "()I" } : Jvm.MethodName)) ∈ tc_TB := tc_mem 198 (by decide +kernel) (by decide +kernel)
theorem tw_164 : (Jvm.Cond.selects "TreeChanges$Path" ({ cls := "TreeChanges$Path", name := "names", desc := "()I" } : Jvm.MethodName) ({ cls := "TreeChanges$Path", name := "names", desc := "()I" } : Jvm.MethodName)) ∈ tc_TB := tc_mem 199 (by decide +kernel) (by decide +kernel)
theorem tw_165 : (Jvm.Cond.code ({ cls := "TreeChanges$Path", name := "names", desc := "()I" } : Jvm.MethodName) prog_4_method_11_code (3 : Nat) (Option.some Jvm.ClassFile.FieldType.int)) ∈ tc_TB := tc_mem 200 (by decide +kernel) (by decide +kernel)
theorem tw_166 : (Jvm.Cond.methodLink "TreeChanges$Path" (36 : Nat) ({ cls := "TreeChanges$Path", name := "isNone", desc := "()Z" } : Jvm.MethodName)) ∈ tc_TB := tc_mem 201 (by decide +kernel) (by decide +kernel)
theorem tw_167 : (Jvm.Cond.instanceMethod ({ cls := "TreeChanges$Path", name := "isNone", desc := "()Z" } : Jvm.MethodName)) ∈ tc_TB := tc_mem 202 (by decide +kernel) (by decide +kernel)
theorem tw_168 : (Jvm.Cond.selects "TreeChanges$Path" ({ cls := "TreeChanges$Path", name := "isNone", desc := "()Z" } : Jvm.MethodName) ({ cls := "TreeChanges$Path", name := "isNone", desc := "()Z" } : Jvm.MethodName)) ∈ tc_TB := tc_mem 203 (by decide +kernel) (by decide +kernel)
theorem tw_169 : (Jvm.Cond.code ({ cls := "TreeChanges$Path", name := "isNone", desc := "()Z" } : Jvm.MethodName) prog_4_method_2_code (1 : Nat) (Option.some Jvm.ClassFile.FieldType.boolean)) ∈ tc_TB := tc_mem 204 (by decide +kernel) (by decide +kernel)
theorem tw_170 : (Jvm.Cond.methodLink "TreeChangesLaw" (101 : Nat) ({ cls := "TreeChanges", name := "same", desc := "()Z" } : Jvm.MethodName)) ∈ tc_TB := tc_mem 205 (by decide +kernel) (by decide +kernel)
theorem tw_171 : (Jvm.Cond.instanceMethod ({ cls := "TreeChanges", name := "same", desc := "()Z" } : Jvm.MethodName)) ∈ tc_TB := tc_mem 206 (by decide +kernel) (by decide +kernel)
theorem tw_172 : (Jvm.Cond.selects "TreeChanges" ({ cls := "TreeChanges", name := "same", desc := "()Z" } : Jvm.MethodName) ({ cls := "TreeChanges", name := "same", desc := "()Z" } : Jvm.MethodName)) ∈ tc_TB := tc_mem 207 (by decide +kernel) (by decide +kernel)
theorem tw_173 : (Jvm.Cond.code ({ cls := "TreeChanges", name := "same", desc := "()Z" } : Jvm.MethodName) prog_1_method_12_code (1 : Nat) (Option.some Jvm.ClassFile.FieldType.boolean)) ∈ tc_TB := tc_mem 208 (by decide +kernel) (by decide +kernel)
theorem tw_174 : (Jvm.Cond.methodLink "TreeChanges" (171 : Nat) ({ cls := "TreeChanges$Tree", name := "isLike", desc := "(LTreeChanges$Tree;)Z" } : Jvm.MethodName)) ∈ tc_TB := tc_mem 209 (by decide +kernel) (by decide +kernel)
theorem tw_175 : (Jvm.Cond.instanceMethod ({ cls := "TreeChanges$Tree", name := "isLike", desc := "(LTreeChanges$Tree;)Z" } : Jvm.MethodName)) ∈ tc_TB := tc_mem 210 (by decide +kernel) (by decide +kernel)
theorem tw_176 : (Jvm.Cond.selects "TreeChanges$Tree" ({ cls := "TreeChanges$Tree", name := "isLike", desc := "(LTreeChanges$Tree;)Z" } : Jvm.MethodName) ({ cls := "TreeChanges$Tree", name := "isLike", desc := "(LTreeChanges$Tree;)Z" } : Jvm.MethodName)) ∈ tc_TB := tc_mem 211 (by decide +kernel) (by decide +kernel)
theorem tw_177 : (Jvm.Cond.code ({ cls := "TreeChanges$Tree", name := "isLike", desc := "(LTreeChanges$Tree;)Z" } : Jvm.MethodName) prog_5_method_15_code (5 : Nat) (Option.some Jvm.ClassFile.FieldType.boolean)) ∈ tc_TB := tc_mem 212 (by decide +kernel) (by decide +kernel)
theorem tw_178 : (Jvm.Cond.methodLink "TreeChanges$Tree" (72 : Nat) ({ cls := "TreeChanges$Path", name := "isAt", desc := "(LTreeChanges$Path;)Z" } : Jvm.MethodName)) ∈ tc_TB := tc_mem 213 (by decide +kernel) (by decide +kernel)
theorem tw_179 : (Jvm.Cond.instanceMethod ({ cls := "TreeChanges$Path", name := "isAt", desc := "(LTreeChanges$Path;)Z" } : Jvm.MethodName)) ∈ tc_TB := tc_mem 214 (by decide +kernel) (by decide +kernel)
theorem tw_180 : (Jvm.Cond.selects "TreeChanges$Path" ({ cls := "TreeChanges$Path", name := "isAt", desc := "(LTreeChanges$Path;)Z" } : Jvm.MethodName) ({ cls := "TreeChanges$Path", name := "isAt", desc := "(LTreeChanges$Path;)Z" } : Jvm.MethodName)) ∈ tc_TB := tc_mem 215 (by decide +kernel) (by decide +kernel)
theorem tw_181 : (Jvm.Cond.code ({ cls := "TreeChanges$Path", name := "isAt", desc := "(LTreeChanges$Path;)Z" } : Jvm.MethodName) prog_4_method_14_code (2 : Nat) (Option.some Jvm.ClassFile.FieldType.boolean)) ∈ tc_TB := tc_mem 216 (by decide +kernel) (by decide +kernel)
theorem tw_182 : (Jvm.Cond.methodLink "TreeChanges$Path" (58 : Nat) ({ cls := "TreeChanges$Path", name := "order", desc := "(LTreeChanges$Path;I)I" } : Jvm.MethodName)) ∈ tc_TB := tc_mem 217 (by decide +kernel) (by decide +kernel)
theorem tw_183 : (Jvm.Cond.instanceMethod ({ cls := "TreeChanges$Path", name := "order", desc := "(LTreeChanges$Path;I)I" } : Jvm.MethodName)) ∈ tc_TB := tc_mem 218 (by decide +kernel) (by decide +kernel)
theorem tw_184 : (Jvm.Cond.selects "TreeChanges$Path" ({ cls := "TreeChanges$Path", name := "order", desc := "(LTreeChanges$Path;I)I" } : Jvm.MethodName) ({ cls := "TreeChanges$Path", name := "order", desc := "(LTreeChanges$Path;I)I" } : Jvm.MethodName)) ∈ tc_TB := tc_mem 219 (by decide +kernel) (by decide +kernel)
theorem tw_185 : (Jvm.Cond.code ({ cls := "TreeChanges$Path", name := "order", desc := "(LTreeChanges$Path;I)I" } : Jvm.MethodName) prog_4_method_13_code (5 : Nat) (Option.some Jvm.ClassFile.FieldType.int)) ∈ tc_TB := tc_mem 220 (by decide +kernel) (by decide +kernel)
theorem tw_186 : (Jvm.Cond.methodLink "TreeChanges$Tree" (94 : Nat) ({ cls := "TreeChanges$Entry", name := "hasLikeContent", desc := "(LTreeChanges$Entry;)Z" } : Jvm.MethodName)) ∈ tc_TB := tc_mem 221 (by decide +kernel) (by decide +kernel)
theorem tw_187 : (Jvm.Cond.instanceMethod ({ cls := "TreeChanges$Entry", name := "hasLikeContent", desc := "(LTreeChanges$Entry;)Z" } : Jvm.MethodName)) ∈ tc_TB := tc_mem 222 (by decide +kernel) (by decide +kernel)
theorem tw_188 : (Jvm.Cond.selects "TreeChanges$Entry" ({ cls := "TreeChanges$Entry", name := "hasLikeContent", desc := "(LTreeChanges$Entry;)Z" } : Jvm.MethodName) ({ cls := "TreeChanges$Entry", name := "hasLikeContent", desc := "(LTreeChanges$Entry;)Z" } : Jvm.MethodName)) ∈ tc_TB := tc_mem 223 (by decide +kernel) (by decide +kernel)
theorem tw_189 : (Jvm.Cond.code ({ cls := "TreeChanges$Entry", name := "hasLikeContent", desc := "(LTreeChanges$Entry;)Z" } : Jvm.MethodName) prog_2_method_7_code (3 : Nat) (Option.some Jvm.ClassFile.FieldType.boolean)) ∈ tc_TB := tc_mem 224 (by decide +kernel) (by decide +kernel)
theorem tw_190 : (Jvm.Cond.methodLink "TreeChanges$Entry" (47 : Nat) ({ cls := "TreeChanges$Entry", name := "byteAt", desc := "(I)I" } : Jvm.MethodName)) ∈ tc_TB := tc_mem 225 (by decide +kernel) (by decide +kernel)
theorem tw_191 : (Jvm.Cond.instanceMethod ({ cls := "TreeChanges$Entry", name := "byteAt", desc := "(I)I" } : Jvm.MethodName)) ∈ tc_TB := tc_mem 226 (by decide +kernel) (by decide +kernel)
theorem tw_192 : (Jvm.Cond.selects "TreeChanges$Entry" ({ cls := "TreeChanges$Entry", name := "byteAt", desc := "(I)I" } : Jvm.MethodName) ({ cls := "TreeChanges$Entry", name := "byteAt", desc := "(I)I" } : Jvm.MethodName)) ∈ tc_TB := tc_mem 227 (by decide +kernel) (by decide +kernel)
theorem tw_193 : (Jvm.Cond.code ({ cls := "TreeChanges$Entry", name := "byteAt", desc := "(I)I" } : Jvm.MethodName) prog_2_method_6_code (2 : Nat) (Option.some Jvm.ClassFile.FieldType.int)) ∈ tc_TB := tc_mem 228 (by decide +kernel) (by decide +kernel)
theorem tw_194 : (Jvm.Cond.methodLink "TreeChangesLaw" (64 : Nat) ({ cls := "TreeChangesLaw", name := "directory", desc := "(LTreeChanges;I)I" } : Jvm.MethodName)) ∈ tc_TB := tc_mem 229 (by decide +kernel) (by decide +kernel)
theorem tw_195 : (Jvm.Cond.static ({ cls := "TreeChangesLaw", name := "directory", desc := "(LTreeChanges;I)I" } : Jvm.MethodName)) ∈ tc_TB := tc_mem 230 (by decide +kernel) (by decide +kernel)
theorem tw_196 : (Jvm.Cond.codeWith ({ cls := "TreeChangesLaw", name := "directory", desc := "(LTreeChanges;I)I" } : Jvm.MethodName) method_3_code (3 : Nat) (Option.some Jvm.ClassFile.FieldType.int) [((0 : Nat), (5 : Nat), (8 : Nat), (13 : Nat)), ((0 : Nat), (5 : Nat), (11 : Nat), (15 : Nat)), ((0 : Nat), (5 : Nat), (14 : Nat), (17 : Nat))]) ∈ tc_TB := tc_mem 231 (by decide +kernel) (by decide +kernel)
theorem tw_197 : (Jvm.Cond.classLink "TreeChangesLaw" (13 : Nat) "java/lang/IllegalArgumentException") ∈ tc_TB := tc_mem 232 (by decide +kernel) (by decide +kernel)
theorem tw_198 : (Jvm.Cond.classLink "TreeChangesLaw" (15 : Nat) "java/lang/IllegalStateException") ∈ tc_TB := tc_mem 233 (by decide +kernel) (by decide +kernel)
theorem tw_199 : (Jvm.Cond.classLink "TreeChangesLaw" (17 : Nat) "java/lang/UnsupportedOperationException") ∈ tc_TB := tc_mem 234 (by decide +kernel) (by decide +kernel)
theorem tw_200 : (Jvm.Cond.methodLink "TreeChangesLaw" (7 : Nat) ({ cls := "TreeChanges", name := "directory", desc := "(I)V" } : Jvm.MethodName)) ∈ tc_TB := tc_mem 235 (by decide +kernel) (by decide +kernel)
theorem tw_201 : (Jvm.Cond.instanceMethod ({ cls := "TreeChanges", name := "directory", desc := "(I)V" } : Jvm.MethodName)) ∈ tc_TB := tc_mem 236 (by decide +kernel) (by decide +kernel)
theorem tw_202 : (Jvm.Cond.selects "TreeChanges" ({ cls := "TreeChanges", name := "directory", desc := "(I)V" } : Jvm.MethodName) ({ cls := "TreeChanges", name := "directory", desc := "(I)V" } : Jvm.MethodName)) ∈ tc_TB := tc_mem 237 (by decide +kernel) (by decide +kernel)
theorem tw_203 : (Jvm.Cond.code ({ cls := "TreeChanges", name := "directory", desc := "(I)V" } : Jvm.MethodName) prog_1_method_3_code (3 : Nat) (Option.none : Option Jvm.ClassFile.FieldType)) ∈ tc_TB := tc_mem 238 (by decide +kernel) (by decide +kernel)
theorem tw_204 : (Jvm.Cond.methodLink "TreeChanges" (50 : Nat) ({ cls := "TreeChanges", name := "treeOf", desc := "(I)LTreeChanges$Tree;" } : Jvm.MethodName)) ∈ tc_TB := tc_mem 239 (by decide +kernel) (by decide +kernel)
theorem tw_206 : (Jvm.Cond.instanceMethod ({ cls := "TreeChanges", name := "treeOf", desc := "(I)LTreeChanges$Tree;" } : Jvm.MethodName)) ∈ tc_TB := tc_mem 241 (by decide +kernel) (by decide +kernel)
theorem tw_207 : (Jvm.Cond.code ({ cls := "TreeChanges", name := "treeOf", desc := "(I)LTreeChanges$Tree;" } : Jvm.MethodName) prog_1_method_15_code (2 : Nat) (Option.some (Jvm.ClassFile.FieldType.object "TreeChanges$Tree"))) ∈ tc_TB := tc_mem 242 (by decide +kernel) (by decide +kernel)
theorem tw_208 : (Jvm.Cond.classLink "TreeChanges" (125 : Nat) "java/lang/IllegalArgumentException") ∈ tc_TB := tc_mem 243 (by decide +kernel) (by decide +kernel)
theorem tw_209 : (Jvm.Cond.instantiable "java/lang/IllegalArgumentException" (6 : Nat)) ∈ tc_TB := tc_mem 244 (by decide +kernel) (by decide +kernel)
theorem tw_210 : (Jvm.Cond.castable "java/lang/IllegalArgumentException" "java/lang/IllegalArgumentException") ∈ tc_TB := tc_mem 245 (by decide +kernel) (by decide +kernel)
theorem tw_211 : (Jvm.Cond.declares ({ cls := "java/lang/RuntimeException", name := "<init>", desc := "()V" } : Jvm.MethodName)) ∈ tc_TB := tc_mem 246 (by decide +kernel) (by decide +kernel)
theorem tw_212 : (Jvm.Cond.declares ({ cls := "java/lang/RuntimeException", name := "<init>", desc := "(Ljava/lang/String;)V" } : Jvm.MethodName)) ∈ tc_TB := tc_mem 247 (by decide +kernel) (by decide +kernel)
theorem tw_213 : (Jvm.Cond.declares ({ cls := "java/lang/Exception", name := "<init>", desc := "()V" } : Jvm.MethodName)) ∈ tc_TB := tc_mem 248 (by decide +kernel) (by decide +kernel)
theorem tw_214 : (Jvm.Cond.declares ({ cls := "java/lang/Exception", name := "<init>", desc := "(Ljava/lang/String;)V" } : Jvm.MethodName)) ∈ tc_TB := tc_mem 249 (by decide +kernel) (by decide +kernel)
theorem tw_215 : (Jvm.Cond.declares ({ cls := "java/lang/Throwable", name := "<init>", desc := "()V" } : Jvm.MethodName)) ∈ tc_TB := tc_mem 250 (by decide +kernel) (by decide +kernel)
theorem tw_216 : (Jvm.Cond.declares ({ cls := "java/lang/Throwable", name := "<init>", desc := "(Ljava/lang/String;)V" } : Jvm.MethodName)) ∈ tc_TB := tc_mem 251 (by decide +kernel) (by decide +kernel)
theorem tw_217 : (Jvm.Cond.selects "java/lang/IllegalArgumentException" ({ cls := "java/lang/Throwable", name := "fillInStackTrace", desc := "(I)Ljava/lang/Throwable;" } : Jvm.MethodName) ({ cls := "java/lang/Throwable", name := "fillInStackTrace", desc := "(I)Ljava/lang/Throwable;" } : Jvm.MethodName)) ∈ tc_TB := tc_mem 252 (by decide +kernel) (by decide +kernel)
theorem tw_218 : (Jvm.Cond.selects "java/lang/IllegalArgumentException" ({ cls := "java/lang/Throwable", name := "fillInStackTrace", desc := "()Ljava/lang/Throwable;" } : Jvm.MethodName) ({ cls := "java/lang/Throwable", name := "fillInStackTrace", desc := "()Ljava/lang/Throwable;" } : Jvm.MethodName)) ∈ tc_TB := tc_mem 253 (by decide +kernel) (by decide +kernel)
theorem tw_219 : (Jvm.Cond.lays "java/lang/IllegalArgumentException" "java/lang/Throwable" "cause" "Ljava/lang/Throwable;") ∈ tc_TB := tc_mem 254 (by decide +kernel) (by decide +kernel)
theorem tw_220 : (Jvm.Cond.lays "java/lang/Throwable" "java/lang/Throwable" "cause" "Ljava/lang/Throwable;") ∈ tc_TB := tc_mem 255 (by decide +kernel) (by decide +kernel)
theorem tw_221 : (Jvm.Cond.lays "java/lang/IllegalArgumentException" "java/lang/Throwable" "stackTrace" "[Ljava/lang/StackTraceElement;") ∈ tc_TB := tc_mem 256 (by decide +kernel) (by decide +kernel)
theorem tw_222 : (Jvm.Cond.lays "java/lang/Throwable" "java/lang/Throwable" "stackTrace" "[Ljava/lang/StackTraceElement;") ∈ tc_TB := tc_mem 257 (by decide +kernel) (by decide +kernel)
theorem tw_223 : (Jvm.Cond.lays "java/lang/IllegalArgumentException" "java/lang/Throwable" "suppressedExceptions" "Ljava/util/List;") ∈ tc_TB := tc_mem 258 (by decide +kernel) (by decide +kernel)
theorem tw_224 : (Jvm.Cond.lays "java/lang/Throwable" "java/lang/Throwable" "suppressedExceptions" "Ljava/util/List;") ∈ tc_TB := tc_mem 259 (by decide +kernel) (by decide +kernel)
theorem tw_225 : (Jvm.Cond.lays "java/lang/IllegalArgumentException" "java/lang/Throwable" "detailMessage" "Ljava/lang/String;") ∈ tc_TB := tc_mem 260 (by decide +kernel) (by decide +kernel)
theorem tw_226 : (Jvm.Cond.lays "java/lang/Throwable" "java/lang/Throwable" "detailMessage" "Ljava/lang/String;") ∈ tc_TB := tc_mem 261 (by decide +kernel) (by decide +kernel)
theorem tw_227 : (Jvm.Cond.lays "java/lang/IllegalArgumentException" "java/lang/Throwable" "backtrace" "Ljava/lang/Object;") ∈ tc_TB := tc_mem 262 (by decide +kernel) (by decide +kernel)
theorem tw_228 : (Jvm.Cond.lays "java/lang/Throwable" "java/lang/Throwable" "backtrace" "Ljava/lang/Object;") ∈ tc_TB := tc_mem 263 (by decide +kernel) (by decide +kernel)
theorem tw_229 : (Jvm.Cond.fieldLink "java/lang/Throwable" (198 : Nat) "java/lang/Throwable" "backtrace" "Ljava/lang/Object;") ∈ tc_TB := tc_mem 264 (by decide +kernel) (by decide +kernel)
theorem tw_231 : (Jvm.Cond.instanceMethod ({ cls := "java/lang/Throwable", name := "<init>", desc := "()V" } : Jvm.MethodName)) ∈ tc_TB := tc_mem 266 (by decide +kernel) (by decide +kernel)
theorem tw_232 : (Jvm.Cond.code ({ cls := "java/lang/Throwable", name := "<init>", desc := "()V" } : Jvm.MethodName) prog_16_method_1_code (1 : Nat) (Option.none : Option Jvm.ClassFile.FieldType)) ∈ tc_TB := tc_mem 267 (by decide +kernel) (by decide +kernel)
theorem tw_233 : (Jvm.Cond.methodLink "java/lang/Throwable" (1 : Nat) ({ cls := "java/lang/Object", name := "<init>", desc := "()V" } : Jvm.MethodName)) ∈ tc_TB := tc_mem 268 (by decide +kernel) (by decide +kernel)
theorem tw_234 : (Jvm.Cond.fieldLink "java/lang/Throwable" (13 : Nat) "java/lang/Throwable" "UNASSIGNED_STACK" "[Ljava/lang/StackTraceElement;") ∈ tc_TB := tc_mem 269 (by decide +kernel) (by decide +kernel)
theorem tw_236 : (Jvm.Cond.fieldLink "java/lang/Throwable" (20 : Nat) "java/lang/Throwable" "SUPPRESSED_SENTINEL" "Ljava/util/List;") ∈ tc_TB := tc_mem 271 (by decide +kernel) (by decide +kernel)
theorem tw_238 : (Jvm.Cond.methodLink "java/lang/Throwable" (27 : Nat) ({ cls := "java/lang/Throwable", name := "fillInStackTrace", desc := "()Ljava/lang/Throwable;" } : Jvm.MethodName)) ∈ tc_TB := tc_mem 273 (by decide +kernel) (by decide +kernel)
theorem tw_239 : (Jvm.Cond.instanceMethod ({ cls := "java/lang/Throwable", name := "fillInStackTrace", desc := "()Ljava/lang/Throwable;" } : Jvm.MethodName)) ∈ tc_TB := tc_mem 274 (by decide +kernel) (by decide +kernel)
theorem tw_240 : (Jvm.Cond.sameMethod "java/lang/Throwable" "java/lang/Throwable" "fillInStackTrace" "()Ljava/lang/Throwable;") ∈ tc_TB := tc_mem 275 (by decide +kernel) (by decide +kernel)
theorem tw_241 : (Jvm.Cond.selects "java/lang/IllegalStateException" ({ cls := "java/lang/Throwable", name := "fillInStackTrace", desc := "()Ljava/lang/Throwable;" } : Jvm.MethodName) ({ cls := "java/lang/Throwable", name := "fillInStackTrace", desc := "()Ljava/lang/Throwable;" } : Jvm.MethodName)) ∈ tc_TB := tc_mem 276 (by decide +kernel) (by decide +kernel)
theorem tw_242 : (Jvm.Cond.selects "java/lang/IndexOutOfBoundsException" ({ cls := "java/lang/Throwable", name := "fillInStackTrace", desc := "()Ljava/lang/Throwable;" } : Jvm.MethodName) ({ cls := "java/lang/Throwable", name := "fillInStackTrace", desc := "()Ljava/lang/Throwable;" } : Jvm.MethodName)) ∈ tc_TB := tc_mem 277 (by decide +kernel) (by decide +kernel)
theorem tw_243 : (Jvm.Cond.selects "java/lang/UnsupportedOperationException" ({ cls := "java/lang/Throwable", name := "fillInStackTrace", desc := "()Ljava/lang/Throwable;" } : Jvm.MethodName) ({ cls := "java/lang/Throwable", name := "fillInStackTrace", desc := "()Ljava/lang/Throwable;" } : Jvm.MethodName)) ∈ tc_TB := tc_mem 278 (by decide +kernel) (by decide +kernel)
theorem tw_244 : (Jvm.Cond.codeSync ({ cls := "java/lang/Throwable", name := "fillInStackTrace", desc := "()Ljava/lang/Throwable;" } : Jvm.MethodName) prog_16_method_18_code (1 : Nat) (Option.some (Jvm.ClassFile.FieldType.object "java/lang/Throwable"))) ∈ tc_TB := tc_mem 279 (by decide +kernel) (by decide +kernel)
theorem tw_245 : (Jvm.Cond.methodLink "java/lang/Throwable" (202 : Nat) ({ cls := "java/lang/Throwable", name := "fillInStackTrace", desc := "(I)Ljava/lang/Throwable;" } : Jvm.MethodName)) ∈ tc_TB := tc_mem 280 (by decide +kernel) (by decide +kernel)
theorem tw_247 : (Jvm.Cond.instanceMethod ({ cls := "java/lang/Throwable", name := "fillInStackTrace", desc := "(I)Ljava/lang/Throwable;" } : Jvm.MethodName)) ∈ tc_TB := tc_mem 282 (by decide +kernel) (by decide +kernel)
theorem tw_248 : (Jvm.Cond.instantiable "java/lang/Throwable" (6 : Nat)) ∈ tc_TB := tc_mem 283 (by decide +kernel) (by decide +kernel)
theorem tw_249 : (Jvm.Cond.native ({ cls := "java/lang/Throwable", name := "fillInStackTrace", desc := "(I)Ljava/lang/Throwable;" } : Jvm.MethodName)) ∈ tc_TB := tc_mem 284 (by decide +kernel) (by decide +kernel)
theorem tw_251 : (Jvm.Cond.methodLink "TreeChanges" (129 : Nat) ({ cls := "java/lang/IllegalArgumentException", name := "<init>", desc := "(Ljava/lang/String;)V" } : Jvm.MethodName)) ∈ tc_TB := tc_mem 286 (by decide +kernel) (by decide +kernel)
theorem tw_252 : (Jvm.Cond.instanceMethod ({ cls := "java/lang/IllegalArgumentException", name := "<init>", desc := "(Ljava/lang/String;)V" } : Jvm.MethodName)) ∈ tc_TB := tc_mem 287 (by decide +kernel) (by decide +kernel)
theorem tw_253 : (Jvm.Cond.code ({ cls := "java/lang/IllegalArgumentException", name := "<init>", desc := "(Ljava/lang/String;)V" } : Jvm.MethodName) prog_9_method_2_code (2 : Nat) (Option.none : Option Jvm.ClassFile.FieldType)) ∈ tc_TB := tc_mem 288 (by decide +kernel) (by decide +kernel)
theorem tw_254 : (Jvm.Cond.methodLink "java/lang/IllegalArgumentException" (7 : Nat) ({ cls := "java/lang/RuntimeException", name := "<init>", desc := "(Ljava/lang/String;)V" } : Jvm.MethodName)) ∈ tc_TB := tc_mem 289 (by decide +kernel) (by decide +kernel)
theorem tw_255 : (Jvm.Cond.instanceMethod ({ cls := "java/lang/RuntimeException", name := "<init>", desc := "(Ljava/lang/String;)V" } : Jvm.MethodName)) ∈ tc_TB := tc_mem 290 (by decide +kernel) (by decide +kernel)
theorem tw_256 : (Jvm.Cond.code ({ cls := "java/lang/RuntimeException", name := "<init>", desc := "(Ljava/lang/String;)V" } : Jvm.MethodName) prog_13_method_2_code (2 : Nat) (Option.none : Option Jvm.ClassFile.FieldType)) ∈ tc_TB := tc_mem 291 (by decide +kernel) (by decide +kernel)
theorem tw_257 : (Jvm.Cond.methodLink "java/lang/RuntimeException" (7 : Nat) ({ cls := "java/lang/Exception", name := "<init>", desc := "(Ljava/lang/String;)V" } : Jvm.MethodName)) ∈ tc_TB := tc_mem 292 (by decide +kernel) (by decide +kernel)
theorem tw_258 : (Jvm.Cond.instanceMethod ({ cls := "java/lang/Exception", name := "<init>", desc := "(Ljava/lang/String;)V" } : Jvm.MethodName)) ∈ tc_TB := tc_mem 293 (by decide +kernel) (by decide +kernel)
theorem tw_259 : (Jvm.Cond.code ({ cls := "java/lang/Exception", name := "<init>", desc := "(Ljava/lang/String;)V" } : Jvm.MethodName) prog_8_method_2_code (2 : Nat) (Option.none : Option Jvm.ClassFile.FieldType)) ∈ tc_TB := tc_mem 294 (by decide +kernel) (by decide +kernel)
theorem tw_260 : (Jvm.Cond.methodLink "java/lang/Exception" (7 : Nat) ({ cls := "java/lang/Throwable", name := "<init>", desc := "(Ljava/lang/String;)V" } : Jvm.MethodName)) ∈ tc_TB := tc_mem 295 (by decide +kernel) (by decide +kernel)
theorem tw_261 : (Jvm.Cond.instanceMethod ({ cls := "java/lang/Throwable", name := "<init>", desc := "(Ljava/lang/String;)V" } : Jvm.MethodName)) ∈ tc_TB := tc_mem 296 (by decide +kernel) (by decide +kernel)
theorem tw_262 : (Jvm.Cond.code ({ cls := "java/lang/Throwable", name := "<init>", desc := "(Ljava/lang/String;)V" } : Jvm.MethodName) prog_16_method_2_code (2 : Nat) (Option.none : Option Jvm.ClassFile.FieldType)) ∈ tc_TB := tc_mem 297 (by decide +kernel) (by decide +kernel)
theorem tw_263 : (Jvm.Cond.fieldLink "java/lang/Throwable" (198 : Nat) "java/lang/Throwable" "backtrace" "Ljava/lang/Object;") ∈ tc_TB := tc_mem 298 (by decide +kernel) (by decide +kernel)
theorem tw_264 : (Jvm.Cond.fieldLink "java/lang/Throwable" (31 : Nat) "java/lang/Throwable" "detailMessage" "Ljava/lang/String;") ∈ tc_TB := tc_mem 299 (by decide +kernel) (by decide +kernel)
theorem tw_265 : (Jvm.Cond.fieldLink "java/lang/Throwable" (7 : Nat) "java/lang/Throwable" "cause" "Ljava/lang/Throwable;") ∈ tc_TB := tc_mem 300 (by decide +kernel) (by decide +kernel)
theorem tw_266 : (Jvm.Cond.fieldLink "java/lang/Throwable" (17 : Nat) "java/lang/Throwable" "stackTrace" "[Ljava/lang/StackTraceElement;") ∈ tc_TB := tc_mem 301 (by decide +kernel) (by decide +kernel)
theorem tw_267 : (Jvm.Cond.fieldLink "java/lang/Throwable" (24 : Nat) "java/lang/Throwable" "suppressedExceptions" "Ljava/util/List;") ∈ tc_TB := tc_mem 302 (by decide +kernel) (by decide +kernel)
theorem tw_272 : (Jvm.Cond.lays "java/lang/IllegalArgumentException" "java/lang/Throwable" "depth" "I") ∈ tc_TB := tc_mem 307 (by decide +kernel) (by decide +kernel)
theorem tw_276 : (Jvm.Cond.methodLink "TreeChanges" (54 : Nat) ({ cls := "TreeChanges$Path", name := "isNone", desc := "()Z" } : Jvm.MethodName)) ∈ tc_TB := tc_mem 311 (by decide +kernel) (by decide +kernel)
theorem tw_277 : (Jvm.Cond.methodLink "TreeChanges" (58 : Nat) ({ cls := "TreeChanges$Tree", name := "kindOf", desc := "(LTreeChanges$Path;)I" } : Jvm.MethodName)) ∈ tc_TB := tc_mem 312 (by decide +kernel) (by decide +kernel)
theorem tw_278 : (Jvm.Cond.instanceMethod ({ cls := "TreeChanges$Tree", name := "kindOf", desc := "(LTreeChanges$Path;)I" } : Jvm.MethodName)) ∈ tc_TB := tc_mem 313 (by decide +kernel) (by decide +kernel)
theorem tw_279 : (Jvm.Cond.selects "TreeChanges$Tree" ({ cls := "TreeChanges$Tree", name := "kindOf", desc := "(LTreeChanges$Path;)I" } : Jvm.MethodName) ({ cls := "TreeChanges$Tree", name := "kindOf", desc := "(LTreeChanges$Path;)I" } : Jvm.MethodName)) ∈ tc_TB := tc_mem 314 (by decide +kernel) (by decide +kernel)
theorem tw_280 : (Jvm.Cond.code ({ cls := "TreeChanges$Tree", name := "kindOf", desc := "(LTreeChanges$Path;)I" } : Jvm.MethodName) prog_5_method_5_code (3 : Nat) (Option.some Jvm.ClassFile.FieldType.int)) ∈ tc_TB := tc_mem 315 (by decide +kernel) (by decide +kernel)
theorem tw_281 : (Jvm.Cond.methodLink "TreeChanges$Tree" (38 : Nat) ({ cls := "TreeChanges$Tree", name := "find", desc := "(LTreeChanges$Path;)I" } : Jvm.MethodName)) ∈ tc_TB := tc_mem 316 (by decide +kernel) (by decide +kernel)
theorem tw_282 : (Jvm.Cond.instanceMethod ({ cls := "TreeChanges$Tree", name := "find", desc := "(LTreeChanges$Path;)I" } : Jvm.MethodName)) ∈ tc_TB := tc_mem 317 (by decide +kernel) (by decide +kernel)
theorem tw_283 : (Jvm.Cond.selects "TreeChanges$Tree" ({ cls := "TreeChanges$Tree", name := "find", desc := "(LTreeChanges$Path;)I" } : Jvm.MethodName) ({ cls := "TreeChanges$Tree", name := "find", desc := "(LTreeChanges$Path;)I" } : Jvm.MethodName)) ∈ tc_TB := tc_mem 318 (by decide +kernel) (by decide +kernel)
theorem tw_284 : (Jvm.Cond.code ({ cls := "TreeChanges$Tree", name := "find", desc := "(LTreeChanges$Path;)I" } : Jvm.MethodName) prog_5_method_3_code (2 : Nat) (Option.some Jvm.ClassFile.FieldType.int)) ∈ tc_TB := tc_mem 319 (by decide +kernel) (by decide +kernel)
theorem tw_285 : (Jvm.Cond.methodLink "TreeChanges$Tree" (27 : Nat) ({ cls := "TreeChanges$Tree", name := "findStart", desc := "(LTreeChanges$Path;I)I" } : Jvm.MethodName)) ∈ tc_TB := tc_mem 320 (by decide +kernel) (by decide +kernel)
theorem tw_287 : (Jvm.Cond.instanceMethod ({ cls := "TreeChanges$Tree", name := "findStart", desc := "(LTreeChanges$Path;I)I" } : Jvm.MethodName)) ∈ tc_TB := tc_mem 322 (by decide +kernel) (by decide +kernel)
theorem tw_288 : (Jvm.Cond.code ({ cls := "TreeChanges$Tree", name := "findStart", desc := "(LTreeChanges$Path;I)I" } : Jvm.MethodName) prog_5_method_4_code (5 : Nat) (Option.some Jvm.ClassFile.FieldType.int)) ∈ tc_TB := tc_mem 323 (by decide +kernel) (by decide +kernel)
theorem tw_289 : (Jvm.Cond.methodLink "TreeChanges$Tree" (35 : Nat) ({ cls := "TreeChanges$Path", name := "order", desc := "(LTreeChanges$Path;I)I" } : Jvm.MethodName)) ∈ tc_TB := tc_mem 324 (by decide +kernel) (by decide +kernel)
theorem tw_290 : (Jvm.Cond.methodLink "TreeChanges" (62 : Nat) ({ cls := "TreeChanges$Tree", name := "hasPlaceFor", desc := "(LTreeChanges$Path;)Z" } : Jvm.MethodName)) ∈ tc_TB := tc_mem 325 (by decide +kernel) (by decide +kernel)
theorem tw_291 : (Jvm.Cond.instanceMethod ({ cls := "TreeChanges$Tree", name := "hasPlaceFor", desc := "(LTreeChanges$Path;)Z" } : Jvm.MethodName)) ∈ tc_TB := tc_mem 326 (by decide +kernel) (by decide +kernel)
theorem tw_292 : (Jvm.Cond.selects "TreeChanges$Tree" ({ cls := "TreeChanges$Tree", name := "hasPlaceFor", desc := "(LTreeChanges$Path;)Z" } : Jvm.MethodName) ({ cls := "TreeChanges$Tree", name := "hasPlaceFor", desc := "(LTreeChanges$Path;)Z" } : Jvm.MethodName)) ∈ tc_TB := tc_mem 327 (by decide +kernel) (by decide +kernel)
theorem tw_293 : (Jvm.Cond.code ({ cls := "TreeChanges$Tree", name := "hasPlaceFor", desc := "(LTreeChanges$Path;)Z" } : Jvm.MethodName) prog_5_method_6_code (4 : Nat) (Option.some Jvm.ClassFile.FieldType.boolean)) ∈ tc_TB := tc_mem 328 (by decide +kernel) (by decide +kernel)
theorem tw_294 : (Jvm.Cond.methodLink "TreeChanges$Tree" (45 : Nat) ({ cls := "TreeChanges$Path", name := "shorter", desc := "()I" } : Jvm.MethodName)) ∈ tc_TB := tc_mem 329 (by decide +kernel) (by decide +kernel)
theorem tw_295 : (Jvm.Cond.instanceMethod ({ cls := "TreeChanges$Path", name := "shorter", desc := "()I" } : Jvm.MethodName)) ∈ tc_TB := tc_mem 330 (by decide +kernel) (by decide +kernel)
theorem tw_296 : (Jvm.Cond.selects "TreeChanges$Path" ({ cls := "TreeChanges$Path", name := "shorter", desc := "()I" } : Jvm.MethodName) ({ cls := "TreeChanges$Path", name := "shorter", desc := "()I" } : Jvm.MethodName)) ∈ tc_TB := tc_mem 331 (by decide +kernel) (by decide +kernel)
theorem tw_297 : (Jvm.Cond.code ({ cls := "TreeChanges$Path", name := "shorter", desc := "()I" } : Jvm.MethodName) prog_4_method_12_code (2 : Nat) (Option.some Jvm.ClassFile.FieldType.int)) ∈ tc_TB := tc_mem 332 (by decide +kernel) (by decide +kernel)
theorem tw_298 : (Jvm.Cond.classLink "TreeChanges" (66 : Nat) "java/lang/IllegalStateException") ∈ tc_TB := tc_mem 333 (by decide +kernel) (by decide +kernel)
theorem tw_299 : (Jvm.Cond.instantiable "java/lang/IllegalStateException" (6 : Nat)) ∈ tc_TB := tc_mem 334 (by decide +kernel) (by decide +kernel)
theorem tw_300 : (Jvm.Cond.castable "java/lang/IllegalStateException" "java/lang/IllegalStateException") ∈ tc_TB := tc_mem 335 (by decide +kernel) (by decide +kernel)
theorem tw_301 : (Jvm.Cond.selects "java/lang/IllegalStateException" ({ cls := "java/lang/Throwable", name := "fillInStackTrace", desc := "(I)Ljava/lang/Throwable;" } : Jvm.MethodName) ({ cls := "java/lang/Throwable", name := "fillInStackTrace", desc := "(I)Ljava/lang/Throwable;" } : Jvm.MethodName)) ∈ tc_TB := tc_mem 336 (by decide +kernel) (by decide +kernel)
theorem tw_302 : (Jvm.Cond.lays "java/lang/IllegalStateException" "java/lang/Throwable" "cause" "Ljava/lang/Throwable;") ∈ tc_TB := tc_mem 337 (by decide +kernel) (by decide +kernel)
theorem tw_303 : (Jvm.Cond.lays "java/lang/IllegalStateException" "java/lang/Throwable" "stackTrace" "[Ljava/lang/StackTraceElement;") ∈ tc_TB := tc_mem 338 (by decide +kernel) (by decide +kernel)
theorem tw_304 : (Jvm.Cond.lays "java/lang/IllegalStateException" "java/lang/Throwable" "suppressedExceptions" "Ljava/util/List;") ∈ tc_TB := tc_mem 339 (by decide +kernel) (by decide +kernel)
theorem tw_305 : (Jvm.Cond.lays "java/lang/IllegalStateException" "java/lang/Throwable" "detailMessage" "Ljava/lang/String;") ∈ tc_TB := tc_mem 340 (by decide +kernel) (by decide +kernel)
theorem tw_306 : (Jvm.Cond.lays "java/lang/IllegalStateException" "java/lang/Throwable" "backtrace" "Ljava/lang/Object;") ∈ tc_TB := tc_mem 341 (by decide +kernel) (by decide +kernel)
theorem tw_308 : (Jvm.Cond.methodLink "TreeChanges" (70 : Nat) ({ cls := "java/lang/IllegalStateException", name := "<init>", desc := "(Ljava/lang/String;)V" } : Jvm.MethodName)) ∈ tc_TB := tc_mem 343 (by decide +kernel) (by decide +kernel)
theorem tw_309 : (Jvm.Cond.instanceMethod ({ cls := "java/lang/IllegalStateException", name := "<init>", desc := "(Ljava/lang/String;)V" } : Jvm.MethodName)) ∈ tc_TB := tc_mem 344 (by decide +kernel) (by decide +kernel)
theorem tw_310 : (Jvm.Cond.code ({ cls := "java/lang/IllegalStateException", name := "<init>", desc := "(Ljava/lang/String;)V" } : Jvm.MethodName) prog_10_method_2_code (2 : Nat) (Option.none : Option Jvm.ClassFile.FieldType)) ∈ tc_TB := tc_mem 345 (by decide +kernel) (by decide +kernel)
theorem tw_311 : (Jvm.Cond.methodLink "java/lang/IllegalStateException" (7 : Nat) ({ cls := "java/lang/RuntimeException", name := "<init>", desc := "(Ljava/lang/String;)V" } : Jvm.MethodName)) ∈ tc_TB := tc_mem 346 (by decide +kernel) (by decide +kernel)
theorem tw_312 : (Jvm.Cond.lays "java/lang/IllegalStateException" "java/lang/Throwable" "depth" "I") ∈ tc_TB := tc_mem 347 (by decide +kernel) (by decide +kernel)
theorem tw_314 : (Jvm.Cond.methodLink "TreeChanges" (73 : Nat) ({ cls := "TreeChanges$Tree", name := "isFull", desc := "()Z" } : Jvm.MethodName)) ∈ tc_TB := tc_mem 349 (by decide +kernel) (by decide +kernel)
theorem tw_315 : (Jvm.Cond.instanceMethod ({ cls := "TreeChanges$Tree", name := "isFull", desc := "()Z" } : Jvm.MethodName)) ∈ tc_TB := tc_mem 350 (by decide +kernel) (by decide +kernel)
theorem tw_316 : (Jvm.Cond.selects "TreeChanges$Tree" ({ cls := "TreeChanges$Tree", name := "isFull", desc := "()Z" } : Jvm.MethodName) ({ cls := "TreeChanges$Tree", name := "isFull", desc := "()Z" } : Jvm.MethodName)) ∈ tc_TB := tc_mem 351 (by decide +kernel) (by decide +kernel)
theorem tw_317 : (Jvm.Cond.code ({ cls := "TreeChanges$Tree", name := "isFull", desc := "()Z" } : Jvm.MethodName) prog_5_method_2_code (1 : Nat) (Option.some Jvm.ClassFile.FieldType.boolean)) ∈ tc_TB := tc_mem 352 (by decide +kernel) (by decide +kernel)
theorem tw_318 : (Jvm.Cond.classLink "TreeChanges" (76 : Nat) "java/lang/UnsupportedOperationException") ∈ tc_TB := tc_mem 353 (by decide +kernel) (by decide +kernel)
theorem tw_319 : (Jvm.Cond.instantiable "java/lang/UnsupportedOperationException" (6 : Nat)) ∈ tc_TB := tc_mem 354 (by decide +kernel) (by decide +kernel)
theorem tw_320 : (Jvm.Cond.castable "java/lang/UnsupportedOperationException" "java/lang/UnsupportedOperationException") ∈ tc_TB := tc_mem 355 (by decide +kernel) (by decide +kernel)
theorem tw_321 : (Jvm.Cond.selects "java/lang/UnsupportedOperationException" ({ cls := "java/lang/Throwable", name := "fillInStackTrace", desc := "(I)Ljava/lang/Throwable;" } : Jvm.MethodName) ({ cls := "java/lang/Throwable", name := "fillInStackTrace", desc := "(I)Ljava/lang/Throwable;" } : Jvm.MethodName)) ∈ tc_TB := tc_mem 356 (by decide +kernel) (by decide +kernel)
theorem tw_322 : (Jvm.Cond.lays "java/lang/UnsupportedOperationException" "java/lang/Throwable" "cause" "Ljava/lang/Throwable;") ∈ tc_TB := tc_mem 357 (by decide +kernel) (by decide +kernel)
theorem tw_323 : (Jvm.Cond.lays "java/lang/UnsupportedOperationException" "java/lang/Throwable" "stackTrace" "[Ljava/lang/StackTraceElement;") ∈ tc_TB := tc_mem 358 (by decide +kernel) (by decide +kernel)
theorem tw_324 : (Jvm.Cond.lays "java/lang/UnsupportedOperationException" "java/lang/Throwable" "suppressedExceptions" "Ljava/util/List;") ∈ tc_TB := tc_mem 359 (by decide +kernel) (by decide +kernel)
theorem tw_325 : (Jvm.Cond.lays "java/lang/UnsupportedOperationException" "java/lang/Throwable" "detailMessage" "Ljava/lang/String;") ∈ tc_TB := tc_mem 360 (by decide +kernel) (by decide +kernel)
theorem tw_326 : (Jvm.Cond.lays "java/lang/UnsupportedOperationException" "java/lang/Throwable" "backtrace" "Ljava/lang/Object;") ∈ tc_TB := tc_mem 361 (by decide +kernel) (by decide +kernel)
theorem tw_328 : (Jvm.Cond.methodLink "TreeChanges" (80 : Nat) ({ cls := "java/lang/UnsupportedOperationException", name := "<init>", desc := "(Ljava/lang/String;)V" } : Jvm.MethodName)) ∈ tc_TB := tc_mem 363 (by decide +kernel) (by decide +kernel)
theorem tw_329 : (Jvm.Cond.instanceMethod ({ cls := "java/lang/UnsupportedOperationException", name := "<init>", desc := "(Ljava/lang/String;)V" } : Jvm.MethodName)) ∈ tc_TB := tc_mem 364 (by decide +kernel) (by decide +kernel)
theorem tw_330 : (Jvm.Cond.code ({ cls := "java/lang/UnsupportedOperationException", name := "<init>", desc := "(Ljava/lang/String;)V" } : Jvm.MethodName) prog_17_method_2_code (2 : Nat) (Option.none : Option Jvm.ClassFile.FieldType)) ∈ tc_TB := tc_mem 365 (by decide +kernel) (by decide +kernel)
theorem tw_331 : (Jvm.Cond.methodLink "java/lang/UnsupportedOperationException" (7 : Nat) ({ cls := "java/lang/RuntimeException", name := "<init>", desc := "(Ljava/lang/String;)V" } : Jvm.MethodName)) ∈ tc_TB := tc_mem 366 (by decide +kernel) (by decide +kernel)
theorem tw_332 : (Jvm.Cond.lays "java/lang/UnsupportedOperationException" "java/lang/Throwable" "depth" "I") ∈ tc_TB := tc_mem 367 (by decide +kernel) (by decide +kernel)
theorem tw_334 : (Jvm.Cond.methodLink "TreeChanges" (81 : Nat) ({ cls := "TreeChanges$Entry", name := "begin", desc := "(LTreeChanges$Path;I)V" } : Jvm.MethodName)) ∈ tc_TB := tc_mem 369 (by decide +kernel) (by decide +kernel)
theorem tw_335 : (Jvm.Cond.instanceMethod ({ cls := "TreeChanges$Entry", name := "begin", desc := "(LTreeChanges$Path;I)V" } : Jvm.MethodName)) ∈ tc_TB := tc_mem 370 (by decide +kernel) (by decide +kernel)
theorem tw_336 : (Jvm.Cond.selects "TreeChanges$Entry" ({ cls := "TreeChanges$Entry", name := "begin", desc := "(LTreeChanges$Path;I)V" } : Jvm.MethodName) ({ cls := "TreeChanges$Entry", name := "begin", desc := "(LTreeChanges$Path;I)V" } : Jvm.MethodName)) ∈ tc_TB := tc_mem 371 (by decide +kernel) (by decide +kernel)
theorem tw_337 : (Jvm.Cond.code ({ cls := "TreeChanges$Entry", name := "begin", desc := "(LTreeChanges$Path;I)V" } : Jvm.MethodName) prog_2_method_2_code (3 : Nat) (Option.none : Option Jvm.ClassFile.FieldType)) ∈ tc_TB := tc_mem 372 (by decide +kernel) (by decide +kernel)
theorem tw_338 : (Jvm.Cond.methodLink "TreeChanges$Entry" (22 : Nat) ({ cls := "TreeChanges$Path", name := "become", desc := "(LTreeChanges$Path;)V" } : Jvm.MethodName)) ∈ tc_TB := tc_mem 373 (by decide +kernel) (by decide +kernel)
theorem tw_339 : (Jvm.Cond.instanceMethod ({ cls := "TreeChanges$Path", name := "become", desc := "(LTreeChanges$Path;)V" } : Jvm.MethodName)) ∈ tc_TB := tc_mem 374 (by decide +kernel) (by decide +kernel)
theorem tw_340 : (Jvm.Cond.selects "TreeChanges$Path" ({ cls := "TreeChanges$Path", name := "become", desc := "(LTreeChanges$Path;)V" } : Jvm.MethodName) ({ cls := "TreeChanges$Path", name := "become", desc := "(LTreeChanges$Path;)V" } : Jvm.MethodName)) ∈ tc_TB := tc_mem 375 (by decide +kernel) (by decide +kernel)
theorem tw_341 : (Jvm.Cond.code ({ cls := "TreeChanges$Path", name := "become", desc := "(LTreeChanges$Path;)V" } : Jvm.MethodName) prog_4_method_5_code (2 : Nat) (Option.none : Option Jvm.ClassFile.FieldType)) ∈ tc_TB := tc_mem 376 (by decide +kernel) (by decide +kernel)
theorem tw_342 : (Jvm.Cond.methodLink "TreeChanges$Path" (19 : Nat) ({ cls := "java/lang/System", name := "arraycopy", desc := "(Ljava/lang/Object;ILjava/lang/Object;II)V" } : Jvm.MethodName)) ∈ tc_TB := tc_mem 377 (by decide +kernel) (by decide +kernel)
theorem tw_343 : (Jvm.Cond.static ({ cls := "java/lang/System", name := "arraycopy", desc := "(Ljava/lang/Object;ILjava/lang/Object;II)V" } : Jvm.MethodName)) ∈ tc_TB := tc_mem 378 (by decide +kernel) (by decide +kernel)
theorem tw_344 : (Jvm.Cond.native ({ cls := "java/lang/System", name := "arraycopy", desc := "(Ljava/lang/Object;ILjava/lang/Object;II)V" } : Jvm.MethodName)) ∈ tc_TB := tc_mem 379 (by decide +kernel) (by decide +kernel)
theorem tw_345 : (Jvm.Cond.methodLink "TreeChanges" (85 : Nat) ({ cls := "TreeChanges$Tree", name := "put", desc := "(LTreeChanges$Entry;)Z" } : Jvm.MethodName)) ∈ tc_TB := tc_mem 380 (by decide +kernel) (by decide +kernel)
theorem tw_346 : (Jvm.Cond.instanceMethod ({ cls := "TreeChanges$Tree", name := "put", desc := "(LTreeChanges$Entry;)Z" } : Jvm.MethodName)) ∈ tc_TB := tc_mem 381 (by decide +kernel) (by decide +kernel)
theorem tw_347 : (Jvm.Cond.selects "TreeChanges$Tree" ({ cls := "TreeChanges$Tree", name := "put", desc := "(LTreeChanges$Entry;)Z" } : Jvm.MethodName) ({ cls := "TreeChanges$Tree", name := "put", desc := "(LTreeChanges$Entry;)Z" } : Jvm.MethodName)) ∈ tc_TB := tc_mem 382 (by decide +kernel) (by decide +kernel)
theorem tw_348 : (Jvm.Cond.code ({ cls := "TreeChanges$Tree", name := "put", desc := "(LTreeChanges$Entry;)Z" } : Jvm.MethodName) prog_5_method_7_code (3 : Nat) (Option.some Jvm.ClassFile.FieldType.boolean)) ∈ tc_TB := tc_mem 383 (by decide +kernel) (by decide +kernel)
theorem tw_349 : (Jvm.Cond.methodLink "TreeChanges$Tree" (49 : Nat) ({ cls := "TreeChanges$Tree", name := "openRow", desc := "(LTreeChanges$Path;)I" } : Jvm.MethodName)) ∈ tc_TB := tc_mem 384 (by decide +kernel) (by decide +kernel)
theorem tw_351 : (Jvm.Cond.instanceMethod ({ cls := "TreeChanges$Tree", name := "openRow", desc := "(LTreeChanges$Path;)I" } : Jvm.MethodName)) ∈ tc_TB := tc_mem 386 (by decide +kernel) (by decide +kernel)
theorem tw_352 : (Jvm.Cond.code ({ cls := "TreeChanges$Tree", name := "openRow", desc := "(LTreeChanges$Path;)I" } : Jvm.MethodName) prog_5_method_8_code (2 : Nat) (Option.some Jvm.ClassFile.FieldType.int)) ∈ tc_TB := tc_mem 387 (by decide +kernel) (by decide +kernel)
theorem tw_353 : (Jvm.Cond.methodLink "TreeChanges$Tree" (56 : Nat) ({ cls := "TreeChanges$Tree", name := "isFull", desc := "()Z" } : Jvm.MethodName)) ∈ tc_TB := tc_mem 388 (by decide +kernel) (by decide +kernel)
theorem tw_354 : (Jvm.Cond.methodLink "TreeChanges$Tree" (60 : Nat) ({ cls := "TreeChanges$Entry", name := "begin", desc := "(LTreeChanges$Path;I)V" } : Jvm.MethodName)) ∈ tc_TB := tc_mem 389 (by decide +kernel) (by decide +kernel)
theorem tw_355 : (Jvm.Cond.methodLink "TreeChanges$Tree" (64 : Nat) ({ cls := "TreeChanges$Tree", name := "sinkRow", desc := "(I)I" } : Jvm.MethodName)) ∈ tc_TB := tc_mem 390 (by decide +kernel) (by decide +kernel)
theorem tw_357 : (Jvm.Cond.instanceMethod ({ cls := "TreeChanges$Tree", name := "sinkRow", desc := "(I)I" } : Jvm.MethodName)) ∈ tc_TB := tc_mem 392 (by decide +kernel) (by decide +kernel)
theorem tw_358 : (Jvm.Cond.code ({ cls := "TreeChanges$Tree", name := "sinkRow", desc := "(I)I" } : Jvm.MethodName) prog_5_method_9_code (4 : Nat) (Option.some Jvm.ClassFile.FieldType.int)) ∈ tc_TB := tc_mem 393 (by decide +kernel) (by decide +kernel)
theorem tw_359 : (Jvm.Cond.methodLink "TreeChanges$Tree" (52 : Nat) ({ cls := "TreeChanges$Entry", name := "become", desc := "(LTreeChanges$Entry;)V" } : Jvm.MethodName)) ∈ tc_TB := tc_mem 394 (by decide +kernel) (by decide +kernel)
theorem tw_360 : (Jvm.Cond.instanceMethod ({ cls := "TreeChanges$Entry", name := "become", desc := "(LTreeChanges$Entry;)V" } : Jvm.MethodName)) ∈ tc_TB := tc_mem 395 (by decide +kernel) (by decide +kernel)
theorem tw_361 : (Jvm.Cond.selects "TreeChanges$Entry" ({ cls := "TreeChanges$Entry", name := "become", desc := "(LTreeChanges$Entry;)V" } : Jvm.MethodName) ({ cls := "TreeChanges$Entry", name := "become", desc := "(LTreeChanges$Entry;)V" } : Jvm.MethodName)) ∈ tc_TB := tc_mem 396 (by decide +kernel) (by decide +kernel)
theorem tw_362 : (Jvm.Cond.code ({ cls := "TreeChanges$Entry", name := "become", desc := "(LTreeChanges$Entry;)V" } : Jvm.MethodName) prog_2_method_5_code (2 : Nat) (Option.none : Option Jvm.ClassFile.FieldType)) ∈ tc_TB := tc_mem 397 (by decide +kernel) (by decide +kernel)
theorem tw_363 : (Jvm.Cond.methodLink "TreeChanges$Entry" (41 : Nat) ({ cls := "java/lang/System", name := "arraycopy", desc := "(Ljava/lang/Object;ILjava/lang/Object;II)V" } : Jvm.MethodName)) ∈ tc_TB := tc_mem 398 (by decide +kernel) (by decide +kernel)
theorem tw_364 : (Jvm.Cond.methodLink "TreeChangesLaw" (74 : Nat) ({ cls := "TreeChangesLaw", name := "file", desc := "(LTreeChanges;II)I" } : Jvm.MethodName)) ∈ tc_TB := tc_mem 399 (by decide +kernel) (by decide +kernel)
theorem tw_365 : (Jvm.Cond.static ({ cls := "TreeChangesLaw", name := "file", desc := "(LTreeChanges;II)I" } : Jvm.MethodName)) ∈ tc_TB := tc_mem 400 (by decide +kernel) (by decide +kernel)
theorem tw_366 : (Jvm.Cond.codeWith ({ cls := "TreeChangesLaw", name := "file", desc := "(LTreeChanges;II)I" } : Jvm.MethodName) method_4_code (4 : Nat) (Option.some Jvm.ClassFile.FieldType.int) [((0 : Nat), (6 : Nat), (9 : Nat), (13 : Nat)), ((0 : Nat), (6 : Nat), (12 : Nat), (15 : Nat)), ((0 : Nat), (6 : Nat), (15 : Nat), (17 : Nat))]) ∈ tc_TB := tc_mem 401 (by decide +kernel) (by decide +kernel)
theorem tw_367 : (Jvm.Cond.methodLink "TreeChangesLaw" (19 : Nat) ({ cls := "TreeChanges", name := "file", desc := "(II)V" } : Jvm.MethodName)) ∈ tc_TB := tc_mem 402 (by decide +kernel) (by decide +kernel)
theorem tw_368 : (Jvm.Cond.instanceMethod ({ cls := "TreeChanges", name := "file", desc := "(II)V" } : Jvm.MethodName)) ∈ tc_TB := tc_mem 403 (by decide +kernel) (by decide +kernel)
theorem tw_369 : (Jvm.Cond.selects "TreeChanges" ({ cls := "TreeChanges", name := "file", desc := "(II)V" } : Jvm.MethodName) ({ cls := "TreeChanges", name := "file", desc := "(II)V" } : Jvm.MethodName)) ∈ tc_TB := tc_mem 404 (by decide +kernel) (by decide +kernel)
theorem tw_370 : (Jvm.Cond.code ({ cls := "TreeChanges", name := "file", desc := "(II)V" } : Jvm.MethodName) prog_1_method_4_code (5 : Nat) (Option.none : Option Jvm.ClassFile.FieldType)) ∈ tc_TB := tc_mem 405 (by decide +kernel) (by decide +kernel)
theorem tw_373 : (Jvm.Cond.methodLink "TreeChanges" (93 : Nat) ({ cls := "TreeChanges$Entry", name := "appendWord", desc := "(I)V" } : Jvm.MethodName)) ∈ tc_TB := tc_mem 408 (by decide +kernel) (by decide +kernel)
theorem tw_374 : (Jvm.Cond.instanceMethod ({ cls := "TreeChanges$Entry", name := "appendWord", desc := "(I)V" } : Jvm.MethodName)) ∈ tc_TB := tc_mem 409 (by decide +kernel) (by decide +kernel)
theorem tw_375 : (Jvm.Cond.selects "TreeChanges$Entry" ({ cls := "TreeChanges$Entry", name := "appendWord", desc := "(I)V" } : Jvm.MethodName) ({ cls := "TreeChanges$Entry", name := "appendWord", desc := "(I)V" } : Jvm.MethodName)) ∈ tc_TB := tc_mem 410 (by decide +kernel) (by decide +kernel)
theorem tw_376 : (Jvm.Cond.code ({ cls := "TreeChanges$Entry", name := "appendWord", desc := "(I)V" } : Jvm.MethodName) prog_2_method_4_code (4 : Nat) (Option.none : Option Jvm.ClassFile.FieldType)) ∈ tc_TB := tc_mem 411 (by decide +kernel) (by decide +kernel)
theorem tw_377 : (Jvm.Cond.methodLinkNest "TreeChanges$Entry" (33 : Nat) ({ cls := "TreeChanges", name := "byteOf", desc := "(II)I" } : Jvm.MethodName) "TreeChanges") ∈ tc_TB := tc_mem 412 (by decide +kernel) (by decide +kernel)
theorem tw_378 : (Jvm.Cond.methodLink "TreeChanges$Entry" (37 : Nat) ({ cls := "TreeChanges$Entry", name := "append", desc := "(I)V" } : Jvm.MethodName)) ∈ tc_TB := tc_mem 413 (by decide +kernel) (by decide +kernel)
theorem tw_379 : (Jvm.Cond.instanceMethod ({ cls := "TreeChanges$Entry", name := "append", desc := "(I)V" } : Jvm.MethodName)) ∈ tc_TB := tc_mem 414 (by decide +kernel) (by decide +kernel)
theorem tw_380 : (Jvm.Cond.selects "TreeChanges$Entry" ({ cls := "TreeChanges$Entry", name := "append", desc := "(I)V" } : Jvm.MethodName) ({ cls := "TreeChanges$Entry", name := "append", desc := "(I)V" } : Jvm.MethodName)) ∈ tc_TB := tc_mem 415 (by decide +kernel) (by decide +kernel)
theorem tw_381 : (Jvm.Cond.code ({ cls := "TreeChanges$Entry", name := "append", desc := "(I)V" } : Jvm.MethodName) prog_2_method_3_code (2 : Nat) (Option.none : Option Jvm.ClassFile.FieldType)) ∈ tc_TB := tc_mem 416 (by decide +kernel) (by decide +kernel)
theorem tw_382 : (Jvm.Cond.methodLink "TreeChangesLaw" (78 : Nat) ({ cls := "TreeChangesLaw", name := "add", desc := "(LTreeChanges;II)I" } : Jvm.MethodName)) ∈ tc_TB := tc_mem 417 (by decide +kernel) (by decide +kernel)
theorem tw_383 : (Jvm.Cond.static ({ cls := "TreeChangesLaw", name := "add", desc := "(LTreeChanges;II)I" } : Jvm.MethodName)) ∈ tc_TB := tc_mem 418 (by decide +kernel) (by decide +kernel)
theorem tw_384 : (Jvm.Cond.codeWith ({ cls := "TreeChangesLaw", name := "add", desc := "(LTreeChanges;II)I" } : Jvm.MethodName) method_5_code (4 : Nat) (Option.some Jvm.ClassFile.FieldType.int) [((0 : Nat), (6 : Nat), (9 : Nat), (13 : Nat)), ((0 : Nat), (6 : Nat), (12 : Nat), (15 : Nat)), ((0 : Nat), (6 : Nat), (15 : Nat), (17 : Nat))]) ∈ tc_TB := tc_mem 419 (by decide +kernel) (by decide +kernel)
theorem tw_385 : (Jvm.Cond.methodLink "TreeChangesLaw" (23 : Nat) ({ cls := "TreeChanges", name := "add", desc := "(II)V" } : Jvm.MethodName)) ∈ tc_TB := tc_mem 420 (by decide +kernel) (by decide +kernel)
theorem tw_386 : (Jvm.Cond.instanceMethod ({ cls := "TreeChanges", name := "add", desc := "(II)V" } : Jvm.MethodName)) ∈ tc_TB := tc_mem 421 (by decide +kernel) (by decide +kernel)
theorem tw_387 : (Jvm.Cond.selects "TreeChanges" ({ cls := "TreeChanges", name := "add", desc := "(II)V" } : Jvm.MethodName) ({ cls := "TreeChanges", name := "add", desc := "(II)V" } : Jvm.MethodName)) ∈ tc_TB := tc_mem 422 (by decide +kernel) (by decide +kernel)
theorem tw_388 : (Jvm.Cond.code ({ cls := "TreeChanges", name := "add", desc := "(II)V" } : Jvm.MethodName) prog_1_method_5_code (5 : Nat) (Option.none : Option Jvm.ClassFile.FieldType)) ∈ tc_TB := tc_mem 423 (by decide +kernel) (by decide +kernel)
theorem tw_389 : (Jvm.Cond.methodLink "TreeChanges" (97 : Nat) ({ cls := "TreeChanges$Tree", name := "find", desc := "(LTreeChanges$Path;)I" } : Jvm.MethodName)) ∈ tc_TB := tc_mem 424 (by decide +kernel) (by decide +kernel)
theorem tw_391 : (Jvm.Cond.methodLink "TreeChanges" (113 : Nat) ({ cls := "TreeChanges", name := "bytesIn", desc := "(I)I" } : Jvm.MethodName)) ∈ tc_TB := tc_mem 426 (by decide +kernel) (by decide +kernel)
theorem tw_392 : (Jvm.Cond.static ({ cls := "TreeChanges", name := "bytesIn", desc := "(I)I" } : Jvm.MethodName)) ∈ tc_TB := tc_mem 427 (by decide +kernel) (by decide +kernel)
theorem tw_393 : (Jvm.Cond.code ({ cls := "TreeChanges", name := "bytesIn", desc := "(I)I" } : Jvm.MethodName) prog_1_method_16_code (3 : Nat) (Option.some Jvm.ClassFile.FieldType.int)) ∈ tc_TB := tc_mem 428 (by decide +kernel) (by decide +kernel)
theorem tw_394 : (Jvm.Cond.methodLink "TreeChanges" (186 : Nat) ({ cls := "TreeChanges", name := "byteOf", desc := "(II)I" } : Jvm.MethodName)) ∈ tc_TB := tc_mem 429 (by decide +kernel) (by decide +kernel)
theorem tw_396 : (Jvm.Cond.methodLink "TreeChangesLaw" (81 : Nat) ({ cls := "TreeChangesLaw", name := "remove", desc := "(LTreeChanges;I)I" } : Jvm.MethodName)) ∈ tc_TB := tc_mem 431 (by decide +kernel) (by decide +kernel)
theorem tw_397 : (Jvm.Cond.static ({ cls := "TreeChangesLaw", name := "remove", desc := "(LTreeChanges;I)I" } : Jvm.MethodName)) ∈ tc_TB := tc_mem 432 (by decide +kernel) (by decide +kernel)
theorem tw_398 : (Jvm.Cond.codeWith ({ cls := "TreeChangesLaw", name := "remove", desc := "(LTreeChanges;I)I" } : Jvm.MethodName) method_6_code (3 : Nat) (Option.some Jvm.ClassFile.FieldType.int) [((0 : Nat), (5 : Nat), (8 : Nat), (13 : Nat)), ((0 : Nat), (5 : Nat), (11 : Nat), (15 : Nat))]) ∈ tc_TB := tc_mem 433 (by decide +kernel) (by decide +kernel)
theorem tw_399 : (Jvm.Cond.methodLink "TreeChangesLaw" (26 : Nat) ({ cls := "TreeChanges", name := "remove", desc := "(I)V" } : Jvm.MethodName)) ∈ tc_TB := tc_mem 434 (by decide +kernel) (by decide +kernel)
theorem tw_400 : (Jvm.Cond.instanceMethod ({ cls := "TreeChanges", name := "remove", desc := "(I)V" } : Jvm.MethodName)) ∈ tc_TB := tc_mem 435 (by decide +kernel) (by decide +kernel)
theorem tw_401 : (Jvm.Cond.selects "TreeChanges" ({ cls := "TreeChanges", name := "remove", desc := "(I)V" } : Jvm.MethodName) ({ cls := "TreeChanges", name := "remove", desc := "(I)V" } : Jvm.MethodName)) ∈ tc_TB := tc_mem 436 (by decide +kernel) (by decide +kernel)
theorem tw_402 : (Jvm.Cond.code ({ cls := "TreeChanges", name := "remove", desc := "(I)V" } : Jvm.MethodName) prog_1_method_6_code (3 : Nat) (Option.none : Option Jvm.ClassFile.FieldType)) ∈ tc_TB := tc_mem 437 (by decide +kernel) (by decide +kernel)
theorem tw_404 : (Jvm.Cond.methodLink "TreeChanges" (121 : Nat) ({ cls := "TreeChanges$Tree", name := "drop", desc := "(LTreeChanges$Path;Z)V" } : Jvm.MethodName)) ∈ tc_TB := tc_mem 439 (by decide +kernel) (by decide +kernel)
theorem tw_405 : (Jvm.Cond.instanceMethod ({ cls := "TreeChanges$Tree", name := "drop", desc := "(LTreeChanges$Path;Z)V" } : Jvm.MethodName)) ∈ tc_TB := tc_mem 440 (by decide +kernel) (by decide +kernel)
theorem tw_406 : (Jvm.Cond.selects "TreeChanges$Tree" ({ cls := "TreeChanges$Tree", name := "drop", desc := "(LTreeChanges$Path;Z)V" } : Jvm.MethodName) ({ cls := "TreeChanges$Tree", name := "drop", desc := "(LTreeChanges$Path;Z)V" } : Jvm.MethodName)) ∈ tc_TB := tc_mem 441 (by decide +kernel) (by decide +kernel)
theorem tw_407 : (Jvm.Cond.code ({ cls := "TreeChanges$Tree", name := "drop", desc := "(LTreeChanges$Path;Z)V" } : Jvm.MethodName) prog_5_method_10_code (7 : Nat) (Option.none : Option Jvm.ClassFile.FieldType)) ∈ tc_TB := tc_mem 442 (by decide +kernel) (by decide +kernel)
theorem tw_408 : (Jvm.Cond.methodLink "TreeChanges$Tree" (68 : Nat) ({ cls := "TreeChanges$Path", name := "isBelow", desc := "(LTreeChanges$Path;)Z" } : Jvm.MethodName)) ∈ tc_TB := tc_mem 443 (by decide +kernel) (by decide +kernel)
theorem tw_409 : (Jvm.Cond.instanceMethod ({ cls := "TreeChanges$Path", name := "isBelow", desc := "(LTreeChanges$Path;)Z" } : Jvm.MethodName)) ∈ tc_TB := tc_mem 444 (by decide +kernel) (by decide +kernel)
theorem tw_410 : (Jvm.Cond.selects "TreeChanges$Path" ({ cls := "TreeChanges$Path", name := "isBelow", desc := "(LTreeChanges$Path;)Z" } : Jvm.MethodName) ({ cls := "TreeChanges$Path", name := "isBelow", desc := "(LTreeChanges$Path;)Z" } : Jvm.MethodName)) ∈ tc_TB := tc_mem 445 (by decide +kernel) (by decide +kernel)
theorem tw_411 : (Jvm.Cond.code ({ cls := "TreeChanges$Path", name := "isBelow", desc := "(LTreeChanges$Path;)Z" } : Jvm.MethodName) prog_4_method_15_code (2 : Nat) (Option.some Jvm.ClassFile.FieldType.boolean)) ∈ tc_TB := tc_mem 446 (by decide +kernel) (by decide +kernel)
theorem tw_412 : (Jvm.Cond.methodLink "TreeChangesLaw" (84 : Nat) ({ cls := "TreeChangesLaw", name := "move", desc := "(LTreeChanges;IIII)I" } : Jvm.MethodName)) ∈ tc_TB := tc_mem 447 (by decide +kernel) (by decide +kernel)
theorem tw_413 : (Jvm.Cond.static ({ cls := "TreeChangesLaw", name := "move", desc := "(LTreeChanges;IIII)I" } : Jvm.MethodName)) ∈ tc_TB := tc_mem 448 (by decide +kernel) (by decide +kernel)
theorem tw_414 : (Jvm.Cond.codeWith ({ cls := "TreeChangesLaw", name := "move", desc := "(LTreeChanges;IIII)I" } : Jvm.MethodName) method_7_code (6 : Nat) (Option.some Jvm.ClassFile.FieldType.int) [((0 : Nat), (9 : Nat), (12 : Nat), (13 : Nat)), ((0 : Nat), (9 : Nat), (16 : Nat), (15 : Nat))]) ∈ tc_TB := tc_mem 449 (by decide +kernel) (by decide +kernel)
theorem tw_415 : (Jvm.Cond.methodLink "TreeChangesLaw" (29 : Nat) ({ cls := "TreeChanges", name := "move", desc := "(IIII)V" } : Jvm.MethodName)) ∈ tc_TB := tc_mem 450 (by decide +kernel) (by decide +kernel)
theorem tw_416 : (Jvm.Cond.instanceMethod ({ cls := "TreeChanges", name := "move", desc := "(IIII)V" } : Jvm.MethodName)) ∈ tc_TB := tc_mem 451 (by decide +kernel) (by decide +kernel)
theorem tw_417 : (Jvm.Cond.selects "TreeChanges" ({ cls := "TreeChanges", name := "move", desc := "(IIII)V" } : Jvm.MethodName) ({ cls := "TreeChanges", name := "move", desc := "(IIII)V" } : Jvm.MethodName)) ∈ tc_TB := tc_mem 452 (by decide +kernel) (by decide +kernel)
theorem tw_418 : (Jvm.Cond.code ({ cls := "TreeChanges", name := "move", desc := "(IIII)V" } : Jvm.MethodName) prog_1_method_7_code (6 : Nat) (Option.none : Option Jvm.ClassFile.FieldType)) ∈ tc_TB := tc_mem 453 (by decide +kernel) (by decide +kernel)
theorem tw_420 : (Jvm.Cond.methodLink "TreeChanges" (130 : Nat) ({ cls := "TreeChanges$Tree", name := "canShift", desc := "(LTreeChanges$Path;LTreeChanges$Path;)Z" } : Jvm.MethodName)) ∈ tc_TB := tc_mem 455 (by decide +kernel) (by decide +kernel)
theorem tw_421 : (Jvm.Cond.instanceMethod ({ cls := "TreeChanges$Tree", name := "canShift", desc := "(LTreeChanges$Path;LTreeChanges$Path;)Z" } : Jvm.MethodName)) ∈ tc_TB := tc_mem 456 (by decide +kernel) (by decide +kernel)
theorem tw_422 : (Jvm.Cond.selects "TreeChanges$Tree" ({ cls := "TreeChanges$Tree", name := "canShift", desc := "(LTreeChanges$Path;LTreeChanges$Path;)Z" } : Jvm.MethodName) ({ cls := "TreeChanges$Tree", name := "canShift", desc := "(LTreeChanges$Path;LTreeChanges$Path;)Z" } : Jvm.MethodName)) ∈ tc_TB := tc_mem 457 (by decide +kernel) (by decide +kernel)
theorem tw_423 : (Jvm.Cond.code ({ cls := "TreeChanges$Tree", name := "canShift", desc := "(LTreeChanges$Path;LTreeChanges$Path;)Z" } : Jvm.MethodName) prog_5_method_11_code (3 : Nat) (Option.some Jvm.ClassFile.FieldType.boolean)) ∈ tc_TB := tc_mem 458 (by decide +kernel) (by decide +kernel)
theorem tw_424 : (Jvm.Cond.methodLink "TreeChanges$Tree" (75 : Nat) ({ cls := "TreeChanges$Tree", name := "hasPlaceFor", desc := "(LTreeChanges$Path;)Z" } : Jvm.MethodName)) ∈ tc_TB := tc_mem 459 (by decide +kernel) (by decide +kernel)
theorem tw_425 : (Jvm.Cond.methodLink "TreeChanges$Tree" (78 : Nat) ({ cls := "TreeChanges$Tree", name := "deepest", desc := "(LTreeChanges$Path;)I" } : Jvm.MethodName)) ∈ tc_TB := tc_mem 460 (by decide +kernel) (by decide +kernel)
theorem tw_427 : (Jvm.Cond.instanceMethod ({ cls := "TreeChanges$Tree", name := "deepest", desc := "(LTreeChanges$Path;)I" } : Jvm.MethodName)) ∈ tc_TB := tc_mem 462 (by decide +kernel) (by decide +kernel)
theorem tw_428 : (Jvm.Cond.code ({ cls := "TreeChanges$Tree", name := "deepest", desc := "(LTreeChanges$Path;)I" } : Jvm.MethodName) prog_5_method_12_code (4 : Nat) (Option.some Jvm.ClassFile.FieldType.int)) ∈ tc_TB := tc_mem 463 (by decide +kernel) (by decide +kernel)
theorem tw_429 : (Jvm.Cond.methodLink "TreeChanges$Tree" (81 : Nat) ({ cls := "TreeChanges$Path", name := "names", desc := "()I" } : Jvm.MethodName)) ∈ tc_TB := tc_mem 464 (by decide +kernel) (by decide +kernel)
theorem tw_430 : (Jvm.Cond.methodLink "TreeChanges$Tree" (84 : Nat) ({ cls := "java/lang/Math", name := "max", desc := "(II)I" } : Jvm.MethodName)) ∈ tc_TB := tc_mem 465 (by decide +kernel) (by decide +kernel)
theorem tw_431 : (Jvm.Cond.static ({ cls := "java/lang/Math", name := "max", desc := "(II)I" } : Jvm.MethodName)) ∈ tc_TB := tc_mem 466 (by decide +kernel) (by decide +kernel)
theorem tw_432 : (Jvm.Cond.code ({ cls := "java/lang/Math", name := "max", desc := "(II)I" } : Jvm.MethodName) prog_12_method_65_code (2 : Nat) (Option.some Jvm.ClassFile.FieldType.int)) ∈ tc_TB := tc_mem 467 (by decide +kernel) (by decide +kernel)
theorem tw_434 : (Jvm.Cond.methodLink "TreeChanges" (136 : Nat) ({ cls := "TreeChanges$Tree", name := "shift", desc := "(LTreeChanges$Path;LTreeChanges$Path;)V" } : Jvm.MethodName)) ∈ tc_TB := tc_mem 469 (by decide +kernel) (by decide +kernel)
theorem tw_435 : (Jvm.Cond.instanceMethod ({ cls := "TreeChanges$Tree", name := "shift", desc := "(LTreeChanges$Path;LTreeChanges$Path;)V" } : Jvm.MethodName)) ∈ tc_TB := tc_mem 470 (by decide +kernel) (by decide +kernel)
theorem tw_436 : (Jvm.Cond.selects "TreeChanges$Tree" ({ cls := "TreeChanges$Tree", name := "shift", desc := "(LTreeChanges$Path;LTreeChanges$Path;)V" } : Jvm.MethodName) ({ cls := "TreeChanges$Tree", name := "shift", desc := "(LTreeChanges$Path;LTreeChanges$Path;)V" } : Jvm.MethodName)) ∈ tc_TB := tc_mem 471 (by decide +kernel) (by decide +kernel)
theorem tw_437 : (Jvm.Cond.code ({ cls := "TreeChanges$Tree", name := "shift", desc := "(LTreeChanges$Path;LTreeChanges$Path;)V" } : Jvm.MethodName) prog_5_method_13_code (5 : Nat) (Option.none : Option Jvm.ClassFile.FieldType)) ∈ tc_TB := tc_mem 472 (by decide +kernel) (by decide +kernel)
theorem tw_438 : (Jvm.Cond.methodLink "TreeChanges$Tree" (90 : Nat) ({ cls := "TreeChanges$Path", name := "replaceStart", desc := "(ILTreeChanges$Path;)V" } : Jvm.MethodName)) ∈ tc_TB := tc_mem 473 (by decide +kernel) (by decide +kernel)
theorem tw_439 : (Jvm.Cond.instanceMethod ({ cls := "TreeChanges$Path", name := "replaceStart", desc := "(ILTreeChanges$Path;)V" } : Jvm.MethodName)) ∈ tc_TB := tc_mem 474 (by decide +kernel) (by decide +kernel)
theorem tw_440 : (Jvm.Cond.selects "TreeChanges$Path" ({ cls := "TreeChanges$Path", name := "replaceStart", desc := "(ILTreeChanges$Path;)V" } : Jvm.MethodName) ({ cls := "TreeChanges$Path", name := "replaceStart", desc := "(ILTreeChanges$Path;)V" } : Jvm.MethodName)) ∈ tc_TB := tc_mem 475 (by decide +kernel) (by decide +kernel)
theorem tw_441 : (Jvm.Cond.code ({ cls := "TreeChanges$Path", name := "replaceStart", desc := "(ILTreeChanges$Path;)V" } : Jvm.MethodName) prog_4_method_16_code (4 : Nat) (Option.none : Option Jvm.ClassFile.FieldType)) ∈ tc_TB := tc_mem 476 (by decide +kernel) (by decide +kernel)
theorem tw_442 : (Jvm.Cond.methodLink "TreeChangesLaw" (88 : Nat) ({ cls := "TreeChangesLaw", name := "copy", desc := "(LTreeChanges;II)I" } : Jvm.MethodName)) ∈ tc_TB := tc_mem 477 (by decide +kernel) (by decide +kernel)
theorem tw_443 : (Jvm.Cond.static ({ cls := "TreeChangesLaw", name := "copy", desc := "(LTreeChanges;II)I" } : Jvm.MethodName)) ∈ tc_TB := tc_mem 478 (by decide +kernel) (by decide +kernel)
theorem tw_444 : (Jvm.Cond.codeWith ({ cls := "TreeChangesLaw", name := "copy", desc := "(LTreeChanges;II)I" } : Jvm.MethodName) method_8_code (4 : Nat) (Option.some Jvm.ClassFile.FieldType.int) [((0 : Nat), (6 : Nat), (9 : Nat), (13 : Nat))]) ∈ tc_TB := tc_mem 479 (by decide +kernel) (by decide +kernel)
theorem tw_445 : (Jvm.Cond.methodLink "TreeChangesLaw" (33 : Nat) ({ cls := "TreeChanges", name := "copy", desc := "(II)V" } : Jvm.MethodName)) ∈ tc_TB := tc_mem 480 (by decide +kernel) (by decide +kernel)
theorem tw_446 : (Jvm.Cond.instanceMethod ({ cls := "TreeChanges", name := "copy", desc := "(II)V" } : Jvm.MethodName)) ∈ tc_TB := tc_mem 481 (by decide +kernel) (by decide +kernel)
theorem tw_447 : (Jvm.Cond.selects "TreeChanges" ({ cls := "TreeChanges", name := "copy", desc := "(II)V" } : Jvm.MethodName) ({ cls := "TreeChanges", name := "copy", desc := "(II)V" } : Jvm.MethodName)) ∈ tc_TB := tc_mem 482 (by decide +kernel) (by decide +kernel)
theorem tw_448 : (Jvm.Cond.code ({ cls := "TreeChanges", name := "copy", desc := "(II)V" } : Jvm.MethodName) prog_1_method_8_code (4 : Nat) (Option.none : Option Jvm.ClassFile.FieldType)) ∈ tc_TB := tc_mem 483 (by decide +kernel) (by decide +kernel)
theorem tw_449 : (Jvm.Cond.methodLink "TreeChanges" (140 : Nat) ({ cls := "TreeChanges$Tree", name := "become", desc := "(LTreeChanges$Tree;)V" } : Jvm.MethodName)) ∈ tc_TB := tc_mem 484 (by decide +kernel) (by decide +kernel)
theorem tw_450 : (Jvm.Cond.instanceMethod ({ cls := "TreeChanges$Tree", name := "become", desc := "(LTreeChanges$Tree;)V" } : Jvm.MethodName)) ∈ tc_TB := tc_mem 485 (by decide +kernel) (by decide +kernel)
theorem tw_451 : (Jvm.Cond.selects "TreeChanges$Tree" ({ cls := "TreeChanges$Tree", name := "become", desc := "(LTreeChanges$Tree;)V" } : Jvm.MethodName) ({ cls := "TreeChanges$Tree", name := "become", desc := "(LTreeChanges$Tree;)V" } : Jvm.MethodName)) ∈ tc_TB := tc_mem 486 (by decide +kernel) (by decide +kernel)
theorem tw_452 : (Jvm.Cond.code ({ cls := "TreeChanges$Tree", name := "become", desc := "(LTreeChanges$Tree;)V" } : Jvm.MethodName) prog_5_method_14_code (3 : Nat) (Option.none : Option Jvm.ClassFile.FieldType)) ∈ tc_TB := tc_mem 487 (by decide +kernel) (by decide +kernel)
theorem tw_453 : (Jvm.Cond.methodLink "TreeChangesLaw" (91 : Nat) ({ cls := "TreeChangesLaw", name := "changes", desc := "(LTreeChanges;I[J)I" } : Jvm.MethodName)) ∈ tc_TB := tc_mem 488 (by decide +kernel) (by decide +kernel)
theorem tw_454 : (Jvm.Cond.static ({ cls := "TreeChangesLaw", name := "changes", desc := "(LTreeChanges;I[J)I" } : Jvm.MethodName)) ∈ tc_TB := tc_mem 489 (by decide +kernel) (by decide +kernel)
theorem tw_455 : (Jvm.Cond.codeWith ({ cls := "TreeChangesLaw", name := "changes", desc := "(LTreeChanges;I[J)I" } : Jvm.MethodName) method_9_code (4 : Nat) (Option.some Jvm.ClassFile.FieldType.int) [((0 : Nat), (9 : Nat), (12 : Nat), (13 : Nat))]) ∈ tc_TB := tc_mem 490 (by decide +kernel) (by decide +kernel)
theorem tw_456 : (Jvm.Cond.methodLink "TreeChangesLaw" (36 : Nat) ({ cls := "TreeChanges", name := "changes", desc := "(I)I" } : Jvm.MethodName)) ∈ tc_TB := tc_mem 491 (by decide +kernel) (by decide +kernel)
theorem tw_457 : (Jvm.Cond.instanceMethod ({ cls := "TreeChanges", name := "changes", desc := "(I)I" } : Jvm.MethodName)) ∈ tc_TB := tc_mem 492 (by decide +kernel) (by decide +kernel)
theorem tw_458 : (Jvm.Cond.selects "TreeChanges" ({ cls := "TreeChanges", name := "changes", desc := "(I)I" } : Jvm.MethodName) ({ cls := "TreeChanges", name := "changes", desc := "(I)I" } : Jvm.MethodName)) ∈ tc_TB := tc_mem 493 (by decide +kernel) (by decide +kernel)
theorem tw_459 : (Jvm.Cond.code ({ cls := "TreeChanges", name := "changes", desc := "(I)I" } : Jvm.MethodName) prog_1_method_9_code (3 : Nat) (Option.some Jvm.ClassFile.FieldType.int)) ∈ tc_TB := tc_mem 494 (by decide +kernel) (by decide +kernel)
theorem tw_460 : (Jvm.Cond.methodLink "TreeChanges" (144 : Nat) ({ cls := "TreeChanges$Layer", name := "tell", desc := "(LTreeChanges$Tree;LTreeChanges$Tree;)V" } : Jvm.MethodName)) ∈ tc_TB := tc_mem 495 (by decide +kernel) (by decide +kernel)
theorem tw_461 : (Jvm.Cond.instanceMethod ({ cls := "TreeChanges$Layer", name := "tell", desc := "(LTreeChanges$Tree;LTreeChanges$Tree;)V" } : Jvm.MethodName)) ∈ tc_TB := tc_mem 496 (by decide +kernel) (by decide +kernel)
theorem tw_462 : (Jvm.Cond.selects "TreeChanges$Layer" ({ cls := "TreeChanges$Layer", name := "tell", desc := "(LTreeChanges$Tree;LTreeChanges$Tree;)V" } : Jvm.MethodName) ({ cls := "TreeChanges$Layer", name := "tell", desc := "(LTreeChanges$Tree;LTreeChanges$Tree;)V" } : Jvm.MethodName)) ∈ tc_TB := tc_mem 497 (by decide +kernel) (by decide +kernel)
theorem tw_463 : (Jvm.Cond.code ({ cls := "TreeChanges$Layer", name := "tell", desc := "(LTreeChanges$Tree;LTreeChanges$Tree;)V" } : Jvm.MethodName) prog_3_method_6_code (8 : Nat) (Option.none : Option Jvm.ClassFile.FieldType)) ∈ tc_TB := tc_mem 498 (by decide +kernel) (by decide +kernel)
theorem tw_464 : (Jvm.Cond.methodLink "TreeChanges$Layer" (59 : Nat) ({ cls := "TreeChanges$Layer", name := "orderOfRows", desc := "(LTreeChanges$Tree;ILTreeChanges$Tree;I)I" } : Jvm.MethodName)) ∈ tc_TB := tc_mem 499 (by decide +kernel) (by decide +kernel)
theorem tw_465 : (Jvm.Cond.static ({ cls := "TreeChanges$Layer", name := "orderOfRows", desc := "(LTreeChanges$Tree;ILTreeChanges$Tree;I)I" } : Jvm.MethodName)) ∈ tc_TB := tc_mem 500 (by decide +kernel) (by decide +kernel)
theorem tw_466 : (Jvm.Cond.code ({ cls := "TreeChanges$Layer", name := "orderOfRows", desc := "(LTreeChanges$Tree;ILTreeChanges$Tree;I)I" } : Jvm.MethodName) prog_3_method_7_code (5 : Nat) (Option.some Jvm.ClassFile.FieldType.int)) ∈ tc_TB := tc_mem 501 (by decide +kernel) (by decide +kernel)
theorem tw_467 : (Jvm.Cond.methodLink "TreeChanges$Layer" (83 : Nat) ({ cls := "TreeChanges$Path", name := "order", desc := "(LTreeChanges$Path;I)I" } : Jvm.MethodName)) ∈ tc_TB := tc_mem 502 (by decide +kernel) (by decide +kernel)
theorem tw_468 : (Jvm.Cond.methodLink "TreeChanges$Layer" (67 : Nat) ({ cls := "TreeChanges$Layer", name := "writeItem", desc := "(ILTreeChanges$Entry;)V" } : Jvm.MethodName)) ∈ tc_TB := tc_mem 503 (by decide +kernel) (by decide +kernel)
theorem tw_470 : (Jvm.Cond.instanceMethod ({ cls := "TreeChanges$Layer", name := "writeItem", desc := "(ILTreeChanges$Entry;)V" } : Jvm.MethodName)) ∈ tc_TB := tc_mem 505 (by decide +kernel) (by decide +kernel)
theorem tw_471 : (Jvm.Cond.code ({ cls := "TreeChanges$Layer", name := "writeItem", desc := "(ILTreeChanges$Entry;)V" } : Jvm.MethodName) prog_3_method_4_code (5 : Nat) (Option.none : Option Jvm.ClassFile.FieldType)) ∈ tc_TB := tc_mem 506 (by decide +kernel) (by decide +kernel)
theorem tw_472 : (Jvm.Cond.methodLink "TreeChanges$Layer" (24 : Nat) ({ cls := "TreeChanges$Layer", name := "append", desc := "(I)V" } : Jvm.MethodName)) ∈ tc_TB := tc_mem 507 (by decide +kernel) (by decide +kernel)
theorem tw_474 : (Jvm.Cond.instanceMethod ({ cls := "TreeChanges$Layer", name := "append", desc := "(I)V" } : Jvm.MethodName)) ∈ tc_TB := tc_mem 509 (by decide +kernel) (by decide +kernel)
theorem tw_475 : (Jvm.Cond.code ({ cls := "TreeChanges$Layer", name := "append", desc := "(I)V" } : Jvm.MethodName) prog_3_method_3_code (2 : Nat) (Option.none : Option Jvm.ClassFile.FieldType)) ∈ tc_TB := tc_mem 510 (by decide +kernel) (by decide +kernel)
theorem tw_476 : (Jvm.Cond.methodLink "TreeChanges$Layer" (35 : Nat) ({ cls := "TreeChanges$Path", name := "signAt", desc := "(I)I" } : Jvm.MethodName)) ∈ tc_TB := tc_mem 511 (by decide +kernel) (by decide +kernel)
theorem tw_477 : (Jvm.Cond.methodLink "TreeChanges$Layer" (39 : Nat) ({ cls := "TreeChanges$Entry", name := "byteAt", desc := "(I)I" } : Jvm.MethodName)) ∈ tc_TB := tc_mem 512 (by decide +kernel) (by decide +kernel)
theorem tw_478 : (Jvm.Cond.methodLink "TreeChanges$Layer" (71 : Nat) ({ cls := "TreeChanges$Layer", name := "tellGone", desc := "(LTreeChanges$Tree;ILTreeChanges$Tree;I)V" } : Jvm.MethodName)) ∈ tc_TB := tc_mem 513 (by decide +kernel) (by decide +kernel)
theorem tw_480 : (Jvm.Cond.instanceMethod ({ cls := "TreeChanges$Layer", name := "tellGone", desc := "(LTreeChanges$Tree;ILTreeChanges$Tree;I)V" } : Jvm.MethodName)) ∈ tc_TB := tc_mem 515 (by decide +kernel) (by decide +kernel)
theorem tw_481 : (Jvm.Cond.code ({ cls := "TreeChanges$Layer", name := "tellGone", desc := "(LTreeChanges$Tree;ILTreeChanges$Tree;I)V" } : Jvm.MethodName) prog_3_method_9_code (6 : Nat) (Option.none : Option Jvm.ClassFile.FieldType)) ∈ tc_TB := tc_mem 516 (by decide +kernel) (by decide +kernel)
theorem tw_482 : (Jvm.Cond.methodLink "TreeChanges$Layer" (91 : Nat) ({ cls := "TreeChanges$Path", name := "isBelow", desc := "(LTreeChanges$Path;)Z" } : Jvm.MethodName)) ∈ tc_TB := tc_mem 517 (by decide +kernel) (by decide +kernel)
theorem tw_483 : (Jvm.Cond.methodLink "TreeChanges$Layer" (95 : Nat) ({ cls := "TreeChanges$Tree", name := "hasPlaceFor", desc := "(LTreeChanges$Path;)Z" } : Jvm.MethodName)) ∈ tc_TB := tc_mem 518 (by decide +kernel) (by decide +kernel)
theorem tw_484 : (Jvm.Cond.methodLink "TreeChanges$Layer" (75 : Nat) ({ cls := "TreeChanges$Layer", name := "isEmptied", desc := "(LTreeChanges$Tree;ILTreeChanges$Tree;I)Z" } : Jvm.MethodName)) ∈ tc_TB := tc_mem 519 (by decide +kernel) (by decide +kernel)
theorem tw_485 : (Jvm.Cond.static ({ cls := "TreeChanges$Layer", name := "isEmptied", desc := "(LTreeChanges$Tree;ILTreeChanges$Tree;I)Z" } : Jvm.MethodName)) ∈ tc_TB := tc_mem 520 (by decide +kernel) (by decide +kernel)
theorem tw_486 : (Jvm.Cond.code ({ cls := "TreeChanges$Layer", name := "isEmptied", desc := "(LTreeChanges$Tree;ILTreeChanges$Tree;I)Z" } : Jvm.MethodName) prog_3_method_10_code (8 : Nat) (Option.some Jvm.ClassFile.FieldType.boolean)) ∈ tc_TB := tc_mem 521 (by decide +kernel) (by decide +kernel)
theorem tw_487 : (Jvm.Cond.methodLink "TreeChanges$Layer" (98 : Nat) ({ cls := "TreeChanges$Path", name := "shorter", desc := "()I" } : Jvm.MethodName)) ∈ tc_TB := tc_mem 522 (by decide +kernel) (by decide +kernel)
theorem tw_488 : (Jvm.Cond.methodLink "TreeChanges$Layer" (102 : Nat) ({ cls := "TreeChanges$Tree", name := "find", desc := "(LTreeChanges$Path;)I" } : Jvm.MethodName)) ∈ tc_TB := tc_mem 523 (by decide +kernel) (by decide +kernel)
theorem tw_489 : (Jvm.Cond.methodLink "TreeChanges$Layer" (79 : Nat) ({ cls := "TreeChanges$Layer", name := "tellKept", desc := "(LTreeChanges$Entry;LTreeChanges$Entry;Z)V" } : Jvm.MethodName)) ∈ tc_TB := tc_mem 524 (by decide +kernel) (by decide +kernel)
theorem tw_491 : (Jvm.Cond.instanceMethod ({ cls := "TreeChanges$Layer", name := "tellKept", desc := "(LTreeChanges$Entry;LTreeChanges$Entry;Z)V" } : Jvm.MethodName)) ∈ tc_TB := tc_mem 526 (by decide +kernel) (by decide +kernel)
theorem tw_492 : (Jvm.Cond.code ({ cls := "TreeChanges$Layer", name := "tellKept", desc := "(LTreeChanges$Entry;LTreeChanges$Entry;Z)V" } : Jvm.MethodName) prog_3_method_8_code (4 : Nat) (Option.none : Option Jvm.ClassFile.FieldType)) ∈ tc_TB := tc_mem 527 (by decide +kernel) (by decide +kernel)
theorem tw_493 : (Jvm.Cond.methodLink "TreeChanges$Layer" (87 : Nat) ({ cls := "TreeChanges$Entry", name := "hasLikeContent", desc := "(LTreeChanges$Entry;)Z" } : Jvm.MethodName)) ∈ tc_TB := tc_mem 528 (by decide +kernel) (by decide +kernel)
theorem tw_494 : (Jvm.Cond.methodLink "TreeChangesLaw" (95 : Nat) ({ cls := "TreeChangesLaw", name := "layer", desc := "(LTreeChanges;I[J)I" } : Jvm.MethodName)) ∈ tc_TB := tc_mem 529 (by decide +kernel) (by decide +kernel)
theorem tw_495 : (Jvm.Cond.static ({ cls := "TreeChangesLaw", name := "layer", desc := "(LTreeChanges;I[J)I" } : Jvm.MethodName)) ∈ tc_TB := tc_mem 530 (by decide +kernel) (by decide +kernel)
theorem tw_496 : (Jvm.Cond.codeWith ({ cls := "TreeChangesLaw", name := "layer", desc := "(LTreeChanges;I[J)I" } : Jvm.MethodName) method_10_code (4 : Nat) (Option.some Jvm.ClassFile.FieldType.int) [((0 : Nat), (9 : Nat), (12 : Nat), (43 : Nat))]) ∈ tc_TB := tc_mem 531 (by decide +kernel) (by decide +kernel)
theorem tw_497 : (Jvm.Cond.classLink "TreeChangesLaw" (43 : Nat) "java/lang/IndexOutOfBoundsException") ∈ tc_TB := tc_mem 532 (by decide +kernel) (by decide +kernel)
theorem tw_498 : (Jvm.Cond.methodLink "TreeChangesLaw" (40 : Nat) ({ cls := "TreeChanges", name := "layer", desc := "(I)I" } : Jvm.MethodName)) ∈ tc_TB := tc_mem 533 (by decide +kernel) (by decide +kernel)
theorem tw_499 : (Jvm.Cond.instanceMethod ({ cls := "TreeChanges", name := "layer", desc := "(I)I" } : Jvm.MethodName)) ∈ tc_TB := tc_mem 534 (by decide +kernel) (by decide +kernel)
theorem tw_500 : (Jvm.Cond.selects "TreeChanges" ({ cls := "TreeChanges", name := "layer", desc := "(I)I" } : Jvm.MethodName) ({ cls := "TreeChanges", name := "layer", desc := "(I)I" } : Jvm.MethodName)) ∈ tc_TB := tc_mem 535 (by decide +kernel) (by decide +kernel)
theorem tw_501 : (Jvm.Cond.code ({ cls := "TreeChanges", name := "layer", desc := "(I)I" } : Jvm.MethodName) prog_1_method_10_code (2 : Nat) (Option.some Jvm.ClassFile.FieldType.int)) ∈ tc_TB := tc_mem 536 (by decide +kernel) (by decide +kernel)
theorem tw_502 : (Jvm.Cond.classLink "TreeChanges" (151 : Nat) "java/lang/IndexOutOfBoundsException") ∈ tc_TB := tc_mem 537 (by decide +kernel) (by decide +kernel)
theorem tw_503 : (Jvm.Cond.instantiable "java/lang/IndexOutOfBoundsException" (6 : Nat)) ∈ tc_TB := tc_mem 538 (by decide +kernel) (by decide +kernel)
theorem tw_504 : (Jvm.Cond.castable "java/lang/IndexOutOfBoundsException" "java/lang/IndexOutOfBoundsException") ∈ tc_TB := tc_mem 539 (by decide +kernel) (by decide +kernel)
theorem tw_505 : (Jvm.Cond.selects "java/lang/IndexOutOfBoundsException" ({ cls := "java/lang/Throwable", name := "fillInStackTrace", desc := "(I)Ljava/lang/Throwable;" } : Jvm.MethodName) ({ cls := "java/lang/Throwable", name := "fillInStackTrace", desc := "(I)Ljava/lang/Throwable;" } : Jvm.MethodName)) ∈ tc_TB := tc_mem 540 (by decide +kernel) (by decide +kernel)
theorem tw_506 : (Jvm.Cond.lays "java/lang/IndexOutOfBoundsException" "java/lang/Throwable" "cause" "Ljava/lang/Throwable;") ∈ tc_TB := tc_mem 541 (by decide +kernel) (by decide +kernel)
theorem tw_507 : (Jvm.Cond.lays "java/lang/IndexOutOfBoundsException" "java/lang/Throwable" "stackTrace" "[Ljava/lang/StackTraceElement;") ∈ tc_TB := tc_mem 542 (by decide +kernel) (by decide +kernel)
theorem tw_508 : (Jvm.Cond.lays "java/lang/IndexOutOfBoundsException" "java/lang/Throwable" "suppressedExceptions" "Ljava/util/List;") ∈ tc_TB := tc_mem 543 (by decide +kernel) (by decide +kernel)
theorem tw_509 : (Jvm.Cond.lays "java/lang/IndexOutOfBoundsException" "java/lang/Throwable" "detailMessage" "Ljava/lang/String;") ∈ tc_TB := tc_mem 544 (by decide +kernel) (by decide +kernel)
theorem tw_510 : (Jvm.Cond.lays "java/lang/IndexOutOfBoundsException" "java/lang/Throwable" "backtrace" "Ljava/lang/Object;") ∈ tc_TB := tc_mem 545 (by decide +kernel) (by decide +kernel)
theorem tw_512 : (Jvm.Cond.methodLink "TreeChanges" (155 : Nat) ({ cls := "java/lang/IndexOutOfBoundsException", name := "<init>", desc := "(Ljava/lang/String;)V" } : Jvm.MethodName)) ∈ tc_TB := tc_mem 547 (by decide +kernel) (by decide +kernel)
theorem tw_513 : (Jvm.Cond.instanceMethod ({ cls := "java/lang/IndexOutOfBoundsException", name := "<init>", desc := "(Ljava/lang/String;)V" } : Jvm.MethodName)) ∈ tc_TB := tc_mem 548 (by decide +kernel) (by decide +kernel)
theorem tw_514 : (Jvm.Cond.code ({ cls := "java/lang/IndexOutOfBoundsException", name := "<init>", desc := "(Ljava/lang/String;)V" } : Jvm.MethodName) prog_11_method_2_code (2 : Nat) (Option.none : Option Jvm.ClassFile.FieldType)) ∈ tc_TB := tc_mem 549 (by decide +kernel) (by decide +kernel)
theorem tw_515 : (Jvm.Cond.methodLink "java/lang/IndexOutOfBoundsException" (7 : Nat) ({ cls := "java/lang/RuntimeException", name := "<init>", desc := "(Ljava/lang/String;)V" } : Jvm.MethodName)) ∈ tc_TB := tc_mem 550 (by decide +kernel) (by decide +kernel)
theorem tw_516 : (Jvm.Cond.lays "java/lang/IndexOutOfBoundsException" "java/lang/Throwable" "depth" "I") ∈ tc_TB := tc_mem 551 (by decide +kernel) (by decide +kernel)
theorem tw_518 : (Jvm.Cond.methodLink "TreeChanges" (156 : Nat) ({ cls := "TreeChanges$Layer", name := "byteAt", desc := "(I)I" } : Jvm.MethodName)) ∈ tc_TB := tc_mem 553 (by decide +kernel) (by decide +kernel)
theorem tw_519 : (Jvm.Cond.instanceMethod ({ cls := "TreeChanges$Layer", name := "byteAt", desc := "(I)I" } : Jvm.MethodName)) ∈ tc_TB := tc_mem 554 (by decide +kernel) (by decide +kernel)
theorem tw_520 : (Jvm.Cond.selects "TreeChanges$Layer" ({ cls := "TreeChanges$Layer", name := "byteAt", desc := "(I)I" } : Jvm.MethodName) ({ cls := "TreeChanges$Layer", name := "byteAt", desc := "(I)I" } : Jvm.MethodName)) ∈ tc_TB := tc_mem 555 (by decide +kernel) (by decide +kernel)
theorem tw_521 : (Jvm.Cond.code ({ cls := "TreeChanges$Layer", name := "byteAt", desc := "(I)I" } : Jvm.MethodName) prog_3_method_2_code (2 : Nat) (Option.some Jvm.ClassFile.FieldType.int)) ∈ tc_TB := tc_mem 556 (by decide +kernel) (by decide +kernel)
theorem tw_522 : (Jvm.Cond.methodLink "TreeChangesLaw" (98 : Nat) ({ cls := "TreeChangesLaw", name := "apply", desc := "(LTreeChanges;I)I" } : Jvm.MethodName)) ∈ tc_TB := tc_mem 557 (by decide +kernel) (by decide +kernel)
theorem tw_523 : (Jvm.Cond.static ({ cls := "TreeChangesLaw", name := "apply", desc := "(LTreeChanges;I)I" } : Jvm.MethodName)) ∈ tc_TB := tc_mem 558 (by decide +kernel) (by decide +kernel)
theorem tw_524 : (Jvm.Cond.codeWith ({ cls := "TreeChangesLaw", name := "apply", desc := "(LTreeChanges;I)I" } : Jvm.MethodName) method_11_code (3 : Nat) (Option.some Jvm.ClassFile.FieldType.int) [((0 : Nat), (5 : Nat), (8 : Nat), (13 : Nat)), ((0 : Nat), (5 : Nat), (11 : Nat), (15 : Nat))]) ∈ tc_TB := tc_mem 559 (by decide +kernel) (by decide +kernel)
theorem tw_525 : (Jvm.Cond.methodLink "TreeChangesLaw" (45 : Nat) ({ cls := "TreeChanges", name := "apply", desc := "(I)V" } : Jvm.MethodName)) ∈ tc_TB := tc_mem 560 (by decide +kernel) (by decide +kernel)
theorem tw_526 : (Jvm.Cond.instanceMethod ({ cls := "TreeChanges", name := "apply", desc := "(I)V" } : Jvm.MethodName)) ∈ tc_TB := tc_mem 561 (by decide +kernel) (by decide +kernel)
theorem tw_527 : (Jvm.Cond.selects "TreeChanges" ({ cls := "TreeChanges", name := "apply", desc := "(I)V" } : Jvm.MethodName) ({ cls := "TreeChanges", name := "apply", desc := "(I)V" } : Jvm.MethodName)) ∈ tc_TB := tc_mem 562 (by decide +kernel) (by decide +kernel)
theorem tw_528 : (Jvm.Cond.code ({ cls := "TreeChanges", name := "apply", desc := "(I)V" } : Jvm.MethodName) prog_1_method_11_code (5 : Nat) (Option.none : Option Jvm.ClassFile.FieldType)) ∈ tc_TB := tc_mem 563 (by decide +kernel) (by decide +kernel)
theorem tw_529 : (Jvm.Cond.methodLink "TreeChanges" (162 : Nat) ({ cls := "TreeChanges$Layer", name := "readItem", desc := "(ILTreeChanges$Entry;)I" } : Jvm.MethodName)) ∈ tc_TB := tc_mem 564 (by decide +kernel) (by decide +kernel)
theorem tw_530 : (Jvm.Cond.instanceMethod ({ cls := "TreeChanges$Layer", name := "readItem", desc := "(ILTreeChanges$Entry;)I" } : Jvm.MethodName)) ∈ tc_TB := tc_mem 565 (by decide +kernel) (by decide +kernel)
theorem tw_531 : (Jvm.Cond.selects "TreeChanges$Layer" ({ cls := "TreeChanges$Layer", name := "readItem", desc := "(ILTreeChanges$Entry;)I" } : Jvm.MethodName) ({ cls := "TreeChanges$Layer", name := "readItem", desc := "(ILTreeChanges$Entry;)I" } : Jvm.MethodName)) ∈ tc_TB := tc_mem 566 (by decide +kernel) (by decide +kernel)
theorem tw_532 : (Jvm.Cond.code ({ cls := "TreeChanges$Layer", name := "readItem", desc := "(ILTreeChanges$Entry;)I" } : Jvm.MethodName) prog_3_method_5_code (7 : Nat) (Option.some Jvm.ClassFile.FieldType.int)) ∈ tc_TB := tc_mem 567 (by decide +kernel) (by decide +kernel)
theorem tw_533 : (Jvm.Cond.methodLink "TreeChanges$Layer" (45 : Nat) ({ cls := "TreeChanges$Layer", name := "byteAt", desc := "(I)I" } : Jvm.MethodName)) ∈ tc_TB := tc_mem 568 (by decide +kernel) (by decide +kernel)
theorem tw_534 : (Jvm.Cond.methodLink "TreeChanges$Layer" (49 : Nat) ({ cls := "TreeChanges$Path", name := "clear", desc := "()V" } : Jvm.MethodName)) ∈ tc_TB := tc_mem 569 (by decide +kernel) (by decide +kernel)
theorem tw_535 : (Jvm.Cond.methodLink "TreeChanges$Layer" (52 : Nat) ({ cls := "TreeChanges$Path", name := "append", desc := "(I)V" } : Jvm.MethodName)) ∈ tc_TB := tc_mem 570 (by decide +kernel) (by decide +kernel)
theorem tw_536 : (Jvm.Cond.methodLink "TreeChanges$Layer" (53 : Nat) ({ cls := "TreeChanges$Entry", name := "append", desc := "(I)V" } : Jvm.MethodName)) ∈ tc_TB := tc_mem 571 (by decide +kernel) (by decide +kernel)
theorem tw_537 : (Jvm.Cond.methodLink "TreeChanges" (166 : Nat) ({ cls := "TreeChanges$Tree", name := "perform", desc := "(LTreeChanges$Entry;)Z" } : Jvm.MethodName)) ∈ tc_TB := tc_mem 572 (by decide +kernel) (by decide +kernel)
theorem tw_538 : (Jvm.Cond.instanceMethod ({ cls := "TreeChanges$Tree", name := "perform", desc := "(LTreeChanges$Entry;)Z" } : Jvm.MethodName)) ∈ tc_TB := tc_mem 573 (by decide +kernel) (by decide +kernel)
theorem tw_539 : (Jvm.Cond.selects "TreeChanges$Tree" ({ cls := "TreeChanges$Tree", name := "perform", desc := "(LTreeChanges$Entry;)Z" } : Jvm.MethodName) ({ cls := "TreeChanges$Tree", name := "perform", desc := "(LTreeChanges$Entry;)Z" } : Jvm.MethodName)) ∈ tc_TB := tc_mem 574 (by decide +kernel) (by decide +kernel)
theorem tw_540 : (Jvm.Cond.code ({ cls := "TreeChanges$Tree", name := "perform", desc := "(LTreeChanges$Entry;)Z" } : Jvm.MethodName) prog_5_method_16_code (2 : Nat) (Option.some Jvm.ClassFile.FieldType.boolean)) ∈ tc_TB := tc_mem 575 (by decide +kernel) (by decide +kernel)
theorem tw_541 : (Jvm.Cond.methodLink "TreeChanges$Tree" (98 : Nat) ({ cls := "TreeChanges$Tree", name := "put", desc := "(LTreeChanges$Entry;)Z" } : Jvm.MethodName)) ∈ tc_TB := tc_mem 576 (by decide +kernel) (by decide +kernel)
theorem tw_542 : (Jvm.Cond.methodLink "TreeChanges$Tree" (101 : Nat) ({ cls := "TreeChanges$Tree", name := "drop", desc := "(LTreeChanges$Path;Z)V" } : Jvm.MethodName)) ∈ tc_TB := tc_mem 577 (by decide +kernel) (by decide +kernel)
theorem tw_543 : (Jvm.Cond.methodLink "TreeChanges$Tree" (105 : Nat) ({ cls := "TreeChanges$Tree", name := "kindOf", desc := "(LTreeChanges$Path;)I" } : Jvm.MethodName)) ∈ tc_TB := tc_mem 578 (by decide +kernel) (by decide +kernel)
theorem tw_545 : (Jvm.Cond.methodLink "TreeChangesLaw" (106 : Nat) ({ cls := "TreeChangesLaw", name := "entries", desc := "(LTreeChanges;I[J)I" } : Jvm.MethodName)) ∈ tc_TB := tc_mem 580 (by decide +kernel) (by decide +kernel)
theorem tw_546 : (Jvm.Cond.static ({ cls := "TreeChangesLaw", name := "entries", desc := "(LTreeChanges;I[J)I" } : Jvm.MethodName)) ∈ tc_TB := tc_mem 581 (by decide +kernel) (by decide +kernel)
theorem tw_547 : (Jvm.Cond.codeWith ({ cls := "TreeChangesLaw", name := "entries", desc := "(LTreeChanges;I[J)I" } : Jvm.MethodName) method_12_code (4 : Nat) (Option.some Jvm.ClassFile.FieldType.int) [((0 : Nat), (9 : Nat), (12 : Nat), (13 : Nat))]) ∈ tc_TB := tc_mem 582 (by decide +kernel) (by decide +kernel)
theorem tw_548 : (Jvm.Cond.methodLink "TreeChangesLaw" (48 : Nat) ({ cls := "TreeChanges", name := "entries", desc := "(I)I" } : Jvm.MethodName)) ∈ tc_TB := tc_mem 583 (by decide +kernel) (by decide +kernel)
theorem tw_549 : (Jvm.Cond.instanceMethod ({ cls := "TreeChanges", name := "entries", desc := "(I)I" } : Jvm.MethodName)) ∈ tc_TB := tc_mem 584 (by decide +kernel) (by decide +kernel)
theorem tw_550 : (Jvm.Cond.selects "TreeChanges" ({ cls := "TreeChanges", name := "entries", desc := "(I)I" } : Jvm.MethodName) ({ cls := "TreeChanges", name := "entries", desc := "(I)I" } : Jvm.MethodName)) ∈ tc_TB := tc_mem 585 (by decide +kernel) (by decide +kernel)
theorem tw_551 : (Jvm.Cond.code ({ cls := "TreeChanges", name := "entries", desc := "(I)I" } : Jvm.MethodName) prog_1_method_13_code (2 : Nat) (Option.some Jvm.ClassFile.FieldType.int)) ∈ tc_TB := tc_mem 586 (by decide +kernel) (by decide +kernel)
theorem tw_552 : (Jvm.Cond.methodLink "TreeChangesLaw" (109 : Nat) ({ cls := "TreeChangesLaw", name := "entry", desc := "(LTreeChanges;III[J)I" } : Jvm.MethodName)) ∈ tc_TB := tc_mem 587 (by decide +kernel) (by decide +kernel)
theorem tw_553 : (Jvm.Cond.static ({ cls := "TreeChangesLaw", name := "entry", desc := "(LTreeChanges;III[J)I" } : Jvm.MethodName)) ∈ tc_TB := tc_mem 588 (by decide +kernel) (by decide +kernel)
theorem tw_554 : (Jvm.Cond.codeWith ({ cls := "TreeChangesLaw", name := "entry", desc := "(LTreeChanges;III[J)I" } : Jvm.MethodName) method_13_code (6 : Nat) (Option.some Jvm.ClassFile.FieldType.int) [((0 : Nat), (12 : Nat), (15 : Nat), (13 : Nat)), ((0 : Nat), (12 : Nat), (19 : Nat), (43 : Nat))]) ∈ tc_TB := tc_mem 589 (by decide +kernel) (by decide +kernel)
theorem tw_555 : (Jvm.Cond.methodLink "TreeChangesLaw" (51 : Nat) ({ cls := "TreeChanges", name := "entry", desc := "(III)I" } : Jvm.MethodName)) ∈ tc_TB := tc_mem 590 (by decide +kernel) (by decide +kernel)
theorem tw_556 : (Jvm.Cond.instanceMethod ({ cls := "TreeChanges", name := "entry", desc := "(III)I" } : Jvm.MethodName)) ∈ tc_TB := tc_mem 591 (by decide +kernel) (by decide +kernel)
theorem tw_557 : (Jvm.Cond.selects "TreeChanges" ({ cls := "TreeChanges", name := "entry", desc := "(III)I" } : Jvm.MethodName) ({ cls := "TreeChanges", name := "entry", desc := "(III)I" } : Jvm.MethodName)) ∈ tc_TB := tc_mem 592 (by decide +kernel) (by decide +kernel)
theorem tw_558 : (Jvm.Cond.code ({ cls := "TreeChanges", name := "entry", desc := "(III)I" } : Jvm.MethodName) prog_1_method_14_code (5 : Nat) (Option.some Jvm.ClassFile.FieldType.int)) ∈ tc_TB := tc_mem 593 (by decide +kernel) (by decide +kernel)
theorem tw_561 : (Jvm.Cond.methodLink "TreeChanges" (182 : Nat) ({ cls := "TreeChanges$Entry", name := "tell", desc := "(I)I" } : Jvm.MethodName)) ∈ tc_TB := tc_mem 596 (by decide +kernel) (by decide +kernel)
theorem tw_562 : (Jvm.Cond.instanceMethod ({ cls := "TreeChanges$Entry", name := "tell", desc := "(I)I" } : Jvm.MethodName)) ∈ tc_TB := tc_mem 597 (by decide +kernel) (by decide +kernel)
theorem tw_563 : (Jvm.Cond.selects "TreeChanges$Entry" ({ cls := "TreeChanges$Entry", name := "tell", desc := "(I)I" } : Jvm.MethodName) ({ cls := "TreeChanges$Entry", name := "tell", desc := "(I)I" } : Jvm.MethodName)) ∈ tc_TB := tc_mem 598 (by decide +kernel) (by decide +kernel)
theorem tw_564 : (Jvm.Cond.code ({ cls := "TreeChanges$Entry", name := "tell", desc := "(I)I" } : Jvm.MethodName) prog_2_method_8_code (2 : Nat) (Option.some Jvm.ClassFile.FieldType.int)) ∈ tc_TB := tc_mem 599 (by decide +kernel) (by decide +kernel)
theorem tw_565 : (Jvm.Cond.methodLink "TreeChanges$Entry" (51 : Nat) ({ cls := "TreeChanges$Path", name := "signAt", desc := "(I)I" } : Jvm.MethodName)) ∈ tc_TB := tc_mem 600 (by decide +kernel) (by decide +kernel)
theorem tw_566 : (Jvm.Cond.methodLink "TreeChanges$Entry" (54 : Nat) ({ cls := "TreeChanges$Path", name := "names", desc := "()I" } : Jvm.MethodName)) ∈ tc_TB := tc_mem 601 (by decide +kernel) (by decide +kernel)
theorem tw_567 : (Jvm.Cond.classLink "TreeChangesLaw" (56 : Nat) "TreeChangesModel") ∈ tc_TB := tc_mem 602 (by decide +kernel) (by decide +kernel)
theorem tw_568 : (Jvm.Cond.instantiable "TreeChangesModel" (9 : Nat)) ∈ tc_TB := tc_mem 603 (by decide +kernel) (by decide +kernel)
theorem tw_569 : (Jvm.Cond.methodLink "TreeChangesLaw" (58 : Nat) ({ cls := "TreeChangesModel", name := "<init>", desc := "()V" } : Jvm.MethodName)) ∈ tc_TB := tc_mem 604 (by decide +kernel) (by decide +kernel)
theorem tw_570 : (Jvm.Cond.instanceMethod ({ cls := "TreeChangesModel", name := "<init>", desc := "()V" } : Jvm.MethodName)) ∈ tc_TB := tc_mem 605 (by decide +kernel) (by decide +kernel)
theorem tw_571 : (Jvm.Cond.code ({ cls := "TreeChangesModel", name := "<init>", desc := "()V" } : Jvm.MethodName) prog_7_method_1_code (1 : Nat) (Option.none : Option Jvm.ClassFile.FieldType)) ∈ tc_TB := tc_mem 606 (by decide +kernel) (by decide +kernel)
theorem tw_572 : (Jvm.Cond.methodLink "TreeChangesModel" (1 : Nat) ({ cls := "java/lang/Object", name := "<init>", desc := "()V" } : Jvm.MethodName)) ∈ tc_TB := tc_mem 607 (by decide +kernel) (by decide +kernel)
theorem tw_573 : (Jvm.Cond.fieldLink "TreeChangesModel" (31 : Nat) "TreeChangesModel" "thrown" "I") ∈ tc_TB := tc_mem 608 (by decide +kernel) (by decide +kernel)
theorem tw_574 : (Jvm.Cond.fieldLink "TreeChangesModel" (7 : Nat) "TreeChangesModel" "signs" "[I") ∈ tc_TB := tc_mem 609 (by decide +kernel) (by decide +kernel)
theorem tw_575 : (Jvm.Cond.fieldLink "TreeChangesModel" (13 : Nat) "TreeChangesModel" "lengths" "[I") ∈ tc_TB := tc_mem 610 (by decide +kernel) (by decide +kernel)
theorem tw_576 : (Jvm.Cond.fieldLink "TreeChangesModel" (16 : Nat) "TreeChangesModel" "counts" "[I") ∈ tc_TB := tc_mem 611 (by decide +kernel) (by decide +kernel)
theorem tw_577 : (Jvm.Cond.fieldLink "TreeChangesModel" (19 : Nat) "TreeChangesModel" "kinds" "[I") ∈ tc_TB := tc_mem 612 (by decide +kernel) (by decide +kernel)
theorem tw_578 : (Jvm.Cond.fieldLink "TreeChangesModel" (22 : Nat) "TreeChangesModel" "sizes" "[I") ∈ tc_TB := tc_mem 613 (by decide +kernel) (by decide +kernel)
theorem tw_579 : (Jvm.Cond.fieldLink "TreeChangesModel" (25 : Nat) "TreeChangesModel" "bytes" "[I") ∈ tc_TB := tc_mem 614 (by decide +kernel) (by decide +kernel)
theorem tw_580 : (Jvm.Cond.fieldLink "TreeChangesModel" (28 : Nat) "TreeChangesModel" "layer" "[I") ∈ tc_TB := tc_mem 615 (by decide +kernel) (by decide +kernel)
theorem tw_581 : (Jvm.Cond.fieldLink "TreeChangesModel" (106 : Nat) "TreeChangesModel" "used" "I") ∈ tc_TB := tc_mem 616 (by decide +kernel) (by decide +kernel)
theorem tw_582 : (Jvm.Cond.lays "TreeChangesModel" "TreeChangesModel" "thrown" "I") ∈ tc_TB := tc_mem 617 (by decide +kernel) (by decide +kernel)
theorem tw_584 : (Jvm.Cond.laysFinal "TreeChangesModel" "TreeChangesModel" "signs" "[I") ∈ tc_TB := tc_mem 619 (by decide +kernel) (by decide +kernel)
theorem tw_586 : (Jvm.Cond.laysFinal "TreeChangesModel" "TreeChangesModel" "lengths" "[I") ∈ tc_TB := tc_mem 621 (by decide +kernel) (by decide +kernel)
theorem tw_588 : (Jvm.Cond.laysFinal "TreeChangesModel" "TreeChangesModel" "counts" "[I") ∈ tc_TB := tc_mem 623 (by decide +kernel) (by decide +kernel)
theorem tw_590 : (Jvm.Cond.laysFinal "TreeChangesModel" "TreeChangesModel" "kinds" "[I") ∈ tc_TB := tc_mem 625 (by decide +kernel) (by decide +kernel)
theorem tw_592 : (Jvm.Cond.laysFinal "TreeChangesModel" "TreeChangesModel" "sizes" "[I") ∈ tc_TB := tc_mem 627 (by decide +kernel) (by decide +kernel)
theorem tw_594 : (Jvm.Cond.laysFinal "TreeChangesModel" "TreeChangesModel" "bytes" "[I") ∈ tc_TB := tc_mem 629 (by decide +kernel) (by decide +kernel)
theorem tw_596 : (Jvm.Cond.laysFinal "TreeChangesModel" "TreeChangesModel" "layer" "[I") ∈ tc_TB := tc_mem 631 (by decide +kernel) (by decide +kernel)
theorem tw_598 : (Jvm.Cond.lays "TreeChangesModel" "TreeChangesModel" "used" "I") ∈ tc_TB := tc_mem 633 (by decide +kernel) (by decide +kernel)
theorem tw_601 : (Jvm.Cond.arrayClass Jvm.ClassFile.FieldType.int) ∈ tc_TB := tc_mem 636 (by decide +kernel) (by decide +kernel)
theorem tw_602 : (Jvm.Cond.methodLink "TreeChangesLaw" (70 : Nat) ({ cls := "TreeChangesModel", name := "thrown", desc := "()I" } : Jvm.MethodName)) ∈ tc_TB := tc_mem 637 (by decide +kernel) (by decide +kernel)
theorem tw_603 : (Jvm.Cond.instanceMethod ({ cls := "TreeChangesModel", name := "thrown", desc := "()I" } : Jvm.MethodName)) ∈ tc_TB := tc_mem 638 (by decide +kernel) (by decide +kernel)
theorem tw_604 : (Jvm.Cond.selects "TreeChangesModel" ({ cls := "TreeChangesModel", name := "thrown", desc := "()I" } : Jvm.MethodName) ({ cls := "TreeChangesModel", name := "thrown", desc := "()I" } : Jvm.MethodName)) ∈ tc_TB := tc_mem 639 (by decide +kernel) (by decide +kernel)
theorem tw_605 : (Jvm.Cond.code ({ cls := "TreeChangesModel", name := "thrown", desc := "()I" } : Jvm.MethodName) prog_7_method_2_code (1 : Nat) (Option.some Jvm.ClassFile.FieldType.int)) ∈ tc_TB := tc_mem 640 (by decide +kernel) (by decide +kernel)
theorem tw_606 : (Jvm.Cond.methodLink "TreeChangesLaw" (63 : Nat) ({ cls := "TreeChangesModel", name := "path", desc := "(III)Z" } : Jvm.MethodName)) ∈ tc_TB := tc_mem 641 (by decide +kernel) (by decide +kernel)
theorem tw_607 : (Jvm.Cond.instanceMethod ({ cls := "TreeChangesModel", name := "path", desc := "(III)Z" } : Jvm.MethodName)) ∈ tc_TB := tc_mem 642 (by decide +kernel) (by decide +kernel)
theorem tw_608 : (Jvm.Cond.selects "TreeChangesModel" ({ cls := "TreeChangesModel", name := "path", desc := "(III)Z" } : Jvm.MethodName) ({ cls := "TreeChangesModel", name := "path", desc := "(III)Z" } : Jvm.MethodName)) ∈ tc_TB := tc_mem 643 (by decide +kernel) (by decide +kernel)
theorem tw_609 : (Jvm.Cond.code ({ cls := "TreeChangesModel", name := "path", desc := "(III)Z" } : Jvm.MethodName) prog_7_method_22_code (5 : Nat) (Option.some Jvm.ClassFile.FieldType.boolean)) ∈ tc_TB := tc_mem 644 (by decide +kernel) (by decide +kernel)
theorem tw_610 : (Jvm.Cond.methodLink "TreeChangesModel" (68 : Nat) ({ cls := "TreeChangesModel", name := "lay", desc := "(IIII)Z" } : Jvm.MethodName)) ∈ tc_TB := tc_mem 645 (by decide +kernel) (by decide +kernel)
theorem tw_612 : (Jvm.Cond.instanceMethod ({ cls := "TreeChangesModel", name := "lay", desc := "(IIII)Z" } : Jvm.MethodName)) ∈ tc_TB := tc_mem 647 (by decide +kernel) (by decide +kernel)
theorem tw_613 : (Jvm.Cond.code ({ cls := "TreeChangesModel", name := "lay", desc := "(IIII)Z" } : Jvm.MethodName) prog_7_method_7_code (11 : Nat) (Option.some Jvm.ClassFile.FieldType.boolean)) ∈ tc_TB := tc_mem 648 (by decide +kernel) (by decide +kernel)
theorem tw_614 : (Jvm.Cond.methodLink "TreeChangesModel" (35 : Nat) ({ cls := "TreeChangesModel", name := "byteOf", desc := "(IIII)I" } : Jvm.MethodName)) ∈ tc_TB := tc_mem 649 (by decide +kernel) (by decide +kernel)
theorem tw_615 : (Jvm.Cond.static ({ cls := "TreeChangesModel", name := "byteOf", desc := "(IIII)I" } : Jvm.MethodName)) ∈ tc_TB := tc_mem 650 (by decide +kernel) (by decide +kernel)
theorem tw_616 : (Jvm.Cond.code ({ cls := "TreeChangesModel", name := "byteOf", desc := "(IIII)I" } : Jvm.MethodName) prog_7_method_6_code (5 : Nat) (Option.some Jvm.ClassFile.FieldType.int)) ∈ tc_TB := tc_mem 651 (by decide +kernel) (by decide +kernel)
theorem tw_617 : (Jvm.Cond.methodLink "TreeChangesModel" (39 : Nat) ({ cls := "TreeChangesModel", name := "isLetter", desc := "(I)Z" } : Jvm.MethodName)) ∈ tc_TB := tc_mem 652 (by decide +kernel) (by decide +kernel)
theorem tw_618 : (Jvm.Cond.static ({ cls := "TreeChangesModel", name := "isLetter", desc := "(I)Z" } : Jvm.MethodName)) ∈ tc_TB := tc_mem 653 (by decide +kernel) (by decide +kernel)
theorem tw_619 : (Jvm.Cond.code ({ cls := "TreeChangesModel", name := "isLetter", desc := "(I)Z" } : Jvm.MethodName) prog_7_method_5_code (1 : Nat) (Option.some Jvm.ClassFile.FieldType.boolean)) ∈ tc_TB := tc_mem 654 (by decide +kernel) (by decide +kernel)
theorem tw_620 : (Jvm.Cond.methodLink "TreeChangesLaw" (69 : Nat) ({ cls := "TreeChangesModel", name := "directory", desc := "(I)V" } : Jvm.MethodName)) ∈ tc_TB := tc_mem 655 (by decide +kernel) (by decide +kernel)
theorem tw_621 : (Jvm.Cond.instanceMethod ({ cls := "TreeChangesModel", name := "directory", desc := "(I)V" } : Jvm.MethodName)) ∈ tc_TB := tc_mem 656 (by decide +kernel) (by decide +kernel)
theorem tw_622 : (Jvm.Cond.selects "TreeChangesModel" ({ cls := "TreeChangesModel", name := "directory", desc := "(I)V" } : Jvm.MethodName) ({ cls := "TreeChangesModel", name := "directory", desc := "(I)V" } : Jvm.MethodName)) ∈ tc_TB := tc_mem 657 (by decide +kernel) (by decide +kernel)
theorem tw_623 : (Jvm.Cond.code ({ cls := "TreeChangesModel", name := "directory", desc := "(I)V" } : Jvm.MethodName) prog_7_method_23_code (5 : Nat) (Option.none : Option Jvm.ClassFile.FieldType)) ∈ tc_TB := tc_mem 658 (by decide +kernel) (by decide +kernel)
theorem tw_624 : (Jvm.Cond.methodLink "TreeChangesModel" (72 : Nat) ({ cls := "TreeChangesModel", name := "isTree", desc := "(I)Z" } : Jvm.MethodName)) ∈ tc_TB := tc_mem 659 (by decide +kernel) (by decide +kernel)
theorem tw_625 : (Jvm.Cond.static ({ cls := "TreeChangesModel", name := "isTree", desc := "(I)Z" } : Jvm.MethodName)) ∈ tc_TB := tc_mem 660 (by decide +kernel) (by decide +kernel)
theorem tw_626 : (Jvm.Cond.code ({ cls := "TreeChangesModel", name := "isTree", desc := "(I)Z" } : Jvm.MethodName) prog_7_method_4_code (1 : Nat) (Option.some Jvm.ClassFile.FieldType.boolean)) ∈ tc_TB := tc_mem 661 (by decide +kernel) (by decide +kernel)
theorem tw_627 : (Jvm.Cond.methodLink "TreeChangesModel" (51 : Nat) ({ cls := "TreeChangesModel", name := "find", desc := "(II)I" } : Jvm.MethodName)) ∈ tc_TB := tc_mem 662 (by decide +kernel) (by decide +kernel)
theorem tw_629 : (Jvm.Cond.instanceMethod ({ cls := "TreeChangesModel", name := "find", desc := "(II)I" } : Jvm.MethodName)) ∈ tc_TB := tc_mem 664 (by decide +kernel) (by decide +kernel)
theorem tw_630 : (Jvm.Cond.code ({ cls := "TreeChangesModel", name := "find", desc := "(II)I" } : Jvm.MethodName) prog_7_method_13_code (5 : Nat) (Option.some Jvm.ClassFile.FieldType.int)) ∈ tc_TB := tc_mem 665 (by decide +kernel) (by decide +kernel)
theorem tw_631 : (Jvm.Cond.methodLink "TreeChangesModel" (47 : Nat) ({ cls := "TreeChangesModel", name := "order", desc := "(II)I" } : Jvm.MethodName)) ∈ tc_TB := tc_mem 666 (by decide +kernel) (by decide +kernel)
theorem tw_633 : (Jvm.Cond.instanceMethod ({ cls := "TreeChangesModel", name := "order", desc := "(II)I" } : Jvm.MethodName)) ∈ tc_TB := tc_mem 668 (by decide +kernel) (by decide +kernel)
theorem tw_634 : (Jvm.Cond.code ({ cls := "TreeChangesModel", name := "order", desc := "(II)I" } : Jvm.MethodName) prog_7_method_9_code (5 : Nat) (Option.some Jvm.ClassFile.FieldType.int)) ∈ tc_TB := tc_mem 669 (by decide +kernel) (by decide +kernel)
theorem tw_635 : (Jvm.Cond.methodLink "TreeChangesModel" (75 : Nat) ({ cls := "TreeChangesModel", name := "mayStand", desc := "(II)Z" } : Jvm.MethodName)) ∈ tc_TB := tc_mem 670 (by decide +kernel) (by decide +kernel)
theorem tw_637 : (Jvm.Cond.instanceMethod ({ cls := "TreeChangesModel", name := "mayStand", desc := "(II)Z" } : Jvm.MethodName)) ∈ tc_TB := tc_mem 672 (by decide +kernel) (by decide +kernel)
theorem tw_638 : (Jvm.Cond.code ({ cls := "TreeChangesModel", name := "mayStand", desc := "(II)Z" } : Jvm.MethodName) prog_7_method_15_code (3 : Nat) (Option.some Jvm.ClassFile.FieldType.boolean)) ∈ tc_TB := tc_mem 673 (by decide +kernel) (by decide +kernel)
theorem tw_639 : (Jvm.Cond.methodLink "TreeChangesModel" (54 : Nat) ({ cls := "TreeChangesModel", name := "shorten", desc := "(I)V" } : Jvm.MethodName)) ∈ tc_TB := tc_mem 674 (by decide +kernel) (by decide +kernel)
theorem tw_641 : (Jvm.Cond.instanceMethod ({ cls := "TreeChangesModel", name := "shorten", desc := "(I)V" } : Jvm.MethodName)) ∈ tc_TB := tc_mem 676 (by decide +kernel) (by decide +kernel)
theorem tw_642 : (Jvm.Cond.code ({ cls := "TreeChangesModel", name := "shorten", desc := "(I)V" } : Jvm.MethodName) prog_7_method_12_code (3 : Nat) (Option.none : Option Jvm.ClassFile.FieldType)) ∈ tc_TB := tc_mem 677 (by decide +kernel) (by decide +kernel)
theorem tw_643 : (Jvm.Cond.methodLink "TreeChangesModel" (43 : Nat) ({ cls := "TreeChangesModel", name := "copyPath", desc := "(II)V" } : Jvm.MethodName)) ∈ tc_TB := tc_mem 678 (by decide +kernel) (by decide +kernel)
theorem tw_645 : (Jvm.Cond.instanceMethod ({ cls := "TreeChangesModel", name := "copyPath", desc := "(II)V" } : Jvm.MethodName)) ∈ tc_TB := tc_mem 680 (by decide +kernel) (by decide +kernel)
theorem tw_646 : (Jvm.Cond.code ({ cls := "TreeChangesModel", name := "copyPath", desc := "(II)V" } : Jvm.MethodName) prog_7_method_8_code (4 : Nat) (Option.none : Option Jvm.ClassFile.FieldType)) ∈ tc_TB := tc_mem 681 (by decide +kernel) (by decide +kernel)
theorem tw_647 : (Jvm.Cond.methodLink "TreeChangesModel" (58 : Nat) ({ cls := "TreeChangesModel", name := "isDirectory", desc := "(II)Z" } : Jvm.MethodName)) ∈ tc_TB := tc_mem 682 (by decide +kernel) (by decide +kernel)
theorem tw_649 : (Jvm.Cond.instanceMethod ({ cls := "TreeChangesModel", name := "isDirectory", desc := "(II)Z" } : Jvm.MethodName)) ∈ tc_TB := tc_mem 684 (by decide +kernel) (by decide +kernel)
theorem tw_650 : (Jvm.Cond.code ({ cls := "TreeChangesModel", name := "isDirectory", desc := "(II)Z" } : Jvm.MethodName) prog_7_method_14_code (4 : Nat) (Option.some Jvm.ClassFile.FieldType.boolean)) ∈ tc_TB := tc_mem 685 (by decide +kernel) (by decide +kernel)
theorem tw_651 : (Jvm.Cond.methodLink "TreeChangesModel" (78 : Nat) ({ cls := "TreeChangesModel", name := "fails", desc := "(ZZZ)Z" } : Jvm.MethodName)) ∈ tc_TB := tc_mem 686 (by decide +kernel) (by decide +kernel)
theorem tw_653 : (Jvm.Cond.instanceMethod ({ cls := "TreeChangesModel", name := "fails", desc := "(ZZZ)Z" } : Jvm.MethodName)) ∈ tc_TB := tc_mem 688 (by decide +kernel) (by decide +kernel)
theorem tw_654 : (Jvm.Cond.code ({ cls := "TreeChangesModel", name := "fails", desc := "(ZZZ)Z" } : Jvm.MethodName) prog_7_method_3_code (4 : Nat) (Option.some Jvm.ClassFile.FieldType.boolean)) ∈ tc_TB := tc_mem 689 (by decide +kernel) (by decide +kernel)
theorem tw_655 : (Jvm.Cond.methodLink "TreeChangesModel" (82 : Nat) ({ cls := "TreeChangesModel", name := "insert", desc := "(III)I" } : Jvm.MethodName)) ∈ tc_TB := tc_mem 690 (by decide +kernel) (by decide +kernel)
theorem tw_657 : (Jvm.Cond.instanceMethod ({ cls := "TreeChangesModel", name := "insert", desc := "(III)I" } : Jvm.MethodName)) ∈ tc_TB := tc_mem 692 (by decide +kernel) (by decide +kernel)
theorem tw_658 : (Jvm.Cond.code ({ cls := "TreeChangesModel", name := "insert", desc := "(III)I" } : Jvm.MethodName) prog_7_method_17_code (6 : Nat) (Option.some Jvm.ClassFile.FieldType.int)) ∈ tc_TB := tc_mem 693 (by decide +kernel) (by decide +kernel)
theorem tw_659 : (Jvm.Cond.methodLink "TreeChangesModel" (62 : Nat) ({ cls := "TreeChangesModel", name := "shift", desc := "(II)V" } : Jvm.MethodName)) ∈ tc_TB := tc_mem 694 (by decide +kernel) (by decide +kernel)
theorem tw_661 : (Jvm.Cond.instanceMethod ({ cls := "TreeChangesModel", name := "shift", desc := "(II)V" } : Jvm.MethodName)) ∈ tc_TB := tc_mem 696 (by decide +kernel) (by decide +kernel)
theorem tw_662 : (Jvm.Cond.code ({ cls := "TreeChangesModel", name := "shift", desc := "(II)V" } : Jvm.MethodName) prog_7_method_16_code (4 : Nat) (Option.none : Option Jvm.ClassFile.FieldType)) ∈ tc_TB := tc_mem 697 (by decide +kernel) (by decide +kernel)
theorem tw_663 : (Jvm.Cond.methodLink "TreeChangesLaw" (77 : Nat) ({ cls := "TreeChangesModel", name := "file", desc := "(II)V" } : Jvm.MethodName)) ∈ tc_TB := tc_mem 698 (by decide +kernel) (by decide +kernel)
theorem tw_664 : (Jvm.Cond.instanceMethod ({ cls := "TreeChangesModel", name := "file", desc := "(II)V" } : Jvm.MethodName)) ∈ tc_TB := tc_mem 699 (by decide +kernel) (by decide +kernel)
theorem tw_665 : (Jvm.Cond.selects "TreeChangesModel" ({ cls := "TreeChangesModel", name := "file", desc := "(II)V" } : Jvm.MethodName) ({ cls := "TreeChangesModel", name := "file", desc := "(II)V" } : Jvm.MethodName)) ∈ tc_TB := tc_mem 700 (by decide +kernel) (by decide +kernel)
theorem tw_666 : (Jvm.Cond.code ({ cls := "TreeChangesModel", name := "file", desc := "(II)V" } : Jvm.MethodName) prog_7_method_24_code (6 : Nat) (Option.none : Option Jvm.ClassFile.FieldType)) ∈ tc_TB := tc_mem 701 (by decide +kernel) (by decide +kernel)
theorem tw_667 : (Jvm.Cond.methodLink "TreeChangesModel" (86 : Nat) ({ cls := "TreeChangesModel", name := "append", desc := "(II)V" } : Jvm.MethodName)) ∈ tc_TB := tc_mem 702 (by decide +kernel) (by decide +kernel)
theorem tw_669 : (Jvm.Cond.instanceMethod ({ cls := "TreeChangesModel", name := "append", desc := "(II)V" } : Jvm.MethodName)) ∈ tc_TB := tc_mem 704 (by decide +kernel) (by decide +kernel)
theorem tw_670 : (Jvm.Cond.code ({ cls := "TreeChangesModel", name := "append", desc := "(II)V" } : Jvm.MethodName) prog_7_method_20_code (5 : Nat) (Option.none : Option Jvm.ClassFile.FieldType)) ∈ tc_TB := tc_mem 705 (by decide +kernel) (by decide +kernel)
theorem tw_671 : (Jvm.Cond.methodLink "TreeChangesLaw" (80 : Nat) ({ cls := "TreeChangesModel", name := "add", desc := "(II)V" } : Jvm.MethodName)) ∈ tc_TB := tc_mem 706 (by decide +kernel) (by decide +kernel)
theorem tw_672 : (Jvm.Cond.instanceMethod ({ cls := "TreeChangesModel", name := "add", desc := "(II)V" } : Jvm.MethodName)) ∈ tc_TB := tc_mem 707 (by decide +kernel) (by decide +kernel)
theorem tw_673 : (Jvm.Cond.selects "TreeChangesModel" ({ cls := "TreeChangesModel", name := "add", desc := "(II)V" } : Jvm.MethodName) ({ cls := "TreeChangesModel", name := "add", desc := "(II)V" } : Jvm.MethodName)) ∈ tc_TB := tc_mem 708 (by decide +kernel) (by decide +kernel)
theorem tw_674 : (Jvm.Cond.code ({ cls := "TreeChangesModel", name := "add", desc := "(II)V" } : Jvm.MethodName) prog_7_method_25_code (6 : Nat) (Option.none : Option Jvm.ClassFile.FieldType)) ∈ tc_TB := tc_mem 709 (by decide +kernel) (by decide +kernel)
theorem tw_675 : (Jvm.Cond.methodLink "TreeChangesModel" (89 : Nat) ({ cls := "TreeChangesModel", name := "many", desc := "(I)I" } : Jvm.MethodName)) ∈ tc_TB := tc_mem 710 (by decide +kernel) (by decide +kernel)
theorem tw_676 : (Jvm.Cond.static ({ cls := "TreeChangesModel", name := "many", desc := "(I)I" } : Jvm.MethodName)) ∈ tc_TB := tc_mem 711 (by decide +kernel) (by decide +kernel)
theorem tw_677 : (Jvm.Cond.code ({ cls := "TreeChangesModel", name := "many", desc := "(I)I" } : Jvm.MethodName) prog_7_method_21_code (3 : Nat) (Option.some Jvm.ClassFile.FieldType.int)) ∈ tc_TB := tc_mem 712 (by decide +kernel) (by decide +kernel)
theorem tw_678 : (Jvm.Cond.methodLink "TreeChangesLaw" (83 : Nat) ({ cls := "TreeChangesModel", name := "remove", desc := "(I)V" } : Jvm.MethodName)) ∈ tc_TB := tc_mem 713 (by decide +kernel) (by decide +kernel)
theorem tw_679 : (Jvm.Cond.instanceMethod ({ cls := "TreeChangesModel", name := "remove", desc := "(I)V" } : Jvm.MethodName)) ∈ tc_TB := tc_mem 714 (by decide +kernel) (by decide +kernel)
theorem tw_680 : (Jvm.Cond.selects "TreeChangesModel" ({ cls := "TreeChangesModel", name := "remove", desc := "(I)V" } : Jvm.MethodName) ({ cls := "TreeChangesModel", name := "remove", desc := "(I)V" } : Jvm.MethodName)) ∈ tc_TB := tc_mem 715 (by decide +kernel) (by decide +kernel)
theorem tw_681 : (Jvm.Cond.code ({ cls := "TreeChangesModel", name := "remove", desc := "(I)V" } : Jvm.MethodName) prog_7_method_26_code (3 : Nat) (Option.none : Option Jvm.ClassFile.FieldType)) ∈ tc_TB := tc_mem 716 (by decide +kernel) (by decide +kernel)
theorem tw_682 : (Jvm.Cond.methodLink "TreeChangesModel" (93 : Nat) ({ cls := "TreeChangesModel", name := "clear", desc := "(IIZ)V" } : Jvm.MethodName)) ∈ tc_TB := tc_mem 717 (by decide +kernel) (by decide +kernel)
theorem tw_684 : (Jvm.Cond.instanceMethod ({ cls := "TreeChangesModel", name := "clear", desc := "(IIZ)V" } : Jvm.MethodName)) ∈ tc_TB := tc_mem 719 (by decide +kernel) (by decide +kernel)
theorem tw_685 : (Jvm.Cond.code ({ cls := "TreeChangesModel", name := "clear", desc := "(IIZ)V" } : Jvm.MethodName) prog_7_method_18_code (7 : Nat) (Option.none : Option Jvm.ClassFile.FieldType)) ∈ tc_TB := tc_mem 720 (by decide +kernel) (by decide +kernel)
theorem tw_686 : (Jvm.Cond.methodLink "TreeChangesModel" (65 : Nat) ({ cls := "TreeChangesModel", name := "isBelow", desc := "(II)Z" } : Jvm.MethodName)) ∈ tc_TB := tc_mem 721 (by decide +kernel) (by decide +kernel)
theorem tw_688 : (Jvm.Cond.instanceMethod ({ cls := "TreeChangesModel", name := "isBelow", desc := "(II)Z" } : Jvm.MethodName)) ∈ tc_TB := tc_mem 723 (by decide +kernel) (by decide +kernel)
theorem tw_689 : (Jvm.Cond.code ({ cls := "TreeChangesModel", name := "isBelow", desc := "(II)Z" } : Jvm.MethodName) prog_7_method_10_code (5 : Nat) (Option.some Jvm.ClassFile.FieldType.boolean)) ∈ tc_TB := tc_mem 724 (by decide +kernel) (by decide +kernel)
theorem tw_690 : (Jvm.Cond.methodLink "TreeChangesLaw" (87 : Nat) ({ cls := "TreeChangesModel", name := "move", desc := "(IIII)V" } : Jvm.MethodName)) ∈ tc_TB := tc_mem 725 (by decide +kernel) (by decide +kernel)
theorem tw_691 : (Jvm.Cond.instanceMethod ({ cls := "TreeChangesModel", name := "move", desc := "(IIII)V" } : Jvm.MethodName)) ∈ tc_TB := tc_mem 726 (by decide +kernel) (by decide +kernel)
theorem tw_692 : (Jvm.Cond.selects "TreeChangesModel" ({ cls := "TreeChangesModel", name := "move", desc := "(IIII)V" } : Jvm.MethodName) ({ cls := "TreeChangesModel", name := "move", desc := "(IIII)V" } : Jvm.MethodName)) ∈ tc_TB := tc_mem 727 (by decide +kernel) (by decide +kernel)
theorem tw_693 : (Jvm.Cond.code ({ cls := "TreeChangesModel", name := "move", desc := "(IIII)V" } : Jvm.MethodName) prog_7_method_28_code (12 : Nat) (Option.none : Option Jvm.ClassFile.FieldType)) ∈ tc_TB := tc_mem 728 (by decide +kernel) (by decide +kernel)
theorem tw_694 : (Jvm.Cond.methodLink "TreeChangesModel" (100 : Nat) ({ cls := "TreeChangesModel", name := "longest", desc := "(I)I" } : Jvm.MethodName)) ∈ tc_TB := tc_mem 729 (by decide +kernel) (by decide +kernel)
theorem tw_696 : (Jvm.Cond.instanceMethod ({ cls := "TreeChangesModel", name := "longest", desc := "(I)I" } : Jvm.MethodName)) ∈ tc_TB := tc_mem 731 (by decide +kernel) (by decide +kernel)
theorem tw_697 : (Jvm.Cond.code ({ cls := "TreeChangesModel", name := "longest", desc := "(I)I" } : Jvm.MethodName) prog_7_method_27_code (6 : Nat) (Option.some Jvm.ClassFile.FieldType.int)) ∈ tc_TB := tc_mem 732 (by decide +kernel) (by decide +kernel)
theorem tw_698 : (Jvm.Cond.methodLink "TreeChangesModel" (97 : Nat) ({ cls := "TreeChangesModel", name := "names", desc := "(I)I" } : Jvm.MethodName)) ∈ tc_TB := tc_mem 733 (by decide +kernel) (by decide +kernel)
theorem tw_700 : (Jvm.Cond.instanceMethod ({ cls := "TreeChangesModel", name := "names", desc := "(I)I" } : Jvm.MethodName)) ∈ tc_TB := tc_mem 735 (by decide +kernel) (by decide +kernel)
theorem tw_701 : (Jvm.Cond.code ({ cls := "TreeChangesModel", name := "names", desc := "(I)I" } : Jvm.MethodName) prog_7_method_11_code (4 : Nat) (Option.some Jvm.ClassFile.FieldType.int)) ∈ tc_TB := tc_mem 736 (by decide +kernel) (by decide +kernel)
theorem tw_702 : (Jvm.Cond.methodLink "TreeChangesModel" (103 : Nat) ({ cls := "TreeChangesModel", name := "become", desc := "(II)V" } : Jvm.MethodName)) ∈ tc_TB := tc_mem 737 (by decide +kernel) (by decide +kernel)
theorem tw_704 : (Jvm.Cond.instanceMethod ({ cls := "TreeChangesModel", name := "become", desc := "(II)V" } : Jvm.MethodName)) ∈ tc_TB := tc_mem 739 (by decide +kernel) (by decide +kernel)
theorem tw_705 : (Jvm.Cond.code ({ cls := "TreeChangesModel", name := "become", desc := "(II)V" } : Jvm.MethodName) prog_7_method_19_code (4 : Nat) (Option.none : Option Jvm.ClassFile.FieldType)) ∈ tc_TB := tc_mem 740 (by decide +kernel) (by decide +kernel)
theorem tw_706 : (Jvm.Cond.methodLink "TreeChangesLaw" (90 : Nat) ({ cls := "TreeChangesModel", name := "copy", desc := "(II)V" } : Jvm.MethodName)) ∈ tc_TB := tc_mem 741 (by decide +kernel) (by decide +kernel)
theorem tw_707 : (Jvm.Cond.instanceMethod ({ cls := "TreeChangesModel", name := "copy", desc := "(II)V" } : Jvm.MethodName)) ∈ tc_TB := tc_mem 742 (by decide +kernel) (by decide +kernel)
theorem tw_708 : (Jvm.Cond.selects "TreeChangesModel" ({ cls := "TreeChangesModel", name := "copy", desc := "(II)V" } : Jvm.MethodName) ({ cls := "TreeChangesModel", name := "copy", desc := "(II)V" } : Jvm.MethodName)) ∈ tc_TB := tc_mem 743 (by decide +kernel) (by decide +kernel)
theorem tw_709 : (Jvm.Cond.code ({ cls := "TreeChangesModel", name := "copy", desc := "(II)V" } : Jvm.MethodName) prog_7_method_29_code (3 : Nat) (Option.none : Option Jvm.ClassFile.FieldType)) ∈ tc_TB := tc_mem 744 (by decide +kernel) (by decide +kernel)
theorem tw_710 : (Jvm.Cond.methodLink "TreeChangesLaw" (94 : Nat) ({ cls := "TreeChangesModel", name := "changes", desc := "(I)I" } : Jvm.MethodName)) ∈ tc_TB := tc_mem 745 (by decide +kernel) (by decide +kernel)
theorem tw_711 : (Jvm.Cond.instanceMethod ({ cls := "TreeChangesModel", name := "changes", desc := "(I)I" } : Jvm.MethodName)) ∈ tc_TB := tc_mem 746 (by decide +kernel) (by decide +kernel)
theorem tw_712 : (Jvm.Cond.selects "TreeChangesModel" ({ cls := "TreeChangesModel", name := "changes", desc := "(I)I" } : Jvm.MethodName) ({ cls := "TreeChangesModel", name := "changes", desc := "(I)I" } : Jvm.MethodName)) ∈ tc_TB := tc_mem 747 (by decide +kernel) (by decide +kernel)
theorem tw_713 : (Jvm.Cond.code ({ cls := "TreeChangesModel", name := "changes", desc := "(I)I" } : Jvm.MethodName) prog_7_method_36_code (6 : Nat) (Option.some Jvm.ClassFile.FieldType.int)) ∈ tc_TB := tc_mem 748 (by decide +kernel) (by decide +kernel)
theorem tw_714 : (Jvm.Cond.methodLink "TreeChangesModel" (121 : Nat) ({ cls := "TreeChangesModel", name := "goes", desc := "(II)V" } : Jvm.MethodName)) ∈ tc_TB := tc_mem 749 (by decide +kernel) (by decide +kernel)
theorem tw_716 : (Jvm.Cond.instanceMethod ({ cls := "TreeChangesModel", name := "goes", desc := "(II)V" } : Jvm.MethodName)) ∈ tc_TB := tc_mem 751 (by decide +kernel) (by decide +kernel)
theorem tw_717 : (Jvm.Cond.code ({ cls := "TreeChangesModel", name := "goes", desc := "(II)V" } : Jvm.MethodName) prog_7_method_35_code (4 : Nat) (Option.none : Option Jvm.ClassFile.FieldType)) ∈ tc_TB := tc_mem 752 (by decide +kernel) (by decide +kernel)
theorem tw_718 : (Jvm.Cond.methodLink "TreeChangesModel" (118 : Nat) ({ cls := "TreeChangesModel", name := "isEmptied", desc := "(II)Z" } : Jvm.MethodName)) ∈ tc_TB := tc_mem 753 (by decide +kernel) (by decide +kernel)
theorem tw_720 : (Jvm.Cond.instanceMethod ({ cls := "TreeChangesModel", name := "isEmptied", desc := "(II)Z" } : Jvm.MethodName)) ∈ tc_TB := tc_mem 755 (by decide +kernel) (by decide +kernel)
theorem tw_721 : (Jvm.Cond.code ({ cls := "TreeChangesModel", name := "isEmptied", desc := "(II)Z" } : Jvm.MethodName) prog_7_method_31_code (7 : Nat) (Option.some Jvm.ClassFile.FieldType.boolean)) ∈ tc_TB := tc_mem 756 (by decide +kernel) (by decide +kernel)
theorem tw_722 : (Jvm.Cond.methodLink "TreeChangesModel" (115 : Nat) ({ cls := "TreeChangesModel", name := "item", desc := "(II)V" } : Jvm.MethodName)) ∈ tc_TB := tc_mem 757 (by decide +kernel) (by decide +kernel)
theorem tw_724 : (Jvm.Cond.instanceMethod ({ cls := "TreeChangesModel", name := "item", desc := "(II)V" } : Jvm.MethodName)) ∈ tc_TB := tc_mem 759 (by decide +kernel) (by decide +kernel)
theorem tw_725 : (Jvm.Cond.code ({ cls := "TreeChangesModel", name := "item", desc := "(II)V" } : Jvm.MethodName) prog_7_method_33_code (5 : Nat) (Option.none : Option Jvm.ClassFile.FieldType)) ∈ tc_TB := tc_mem 760 (by decide +kernel) (by decide +kernel)
theorem tw_726 : (Jvm.Cond.methodLink "TreeChangesModel" (109 : Nat) ({ cls := "TreeChangesModel", name := "put", desc := "(I)V" } : Jvm.MethodName)) ∈ tc_TB := tc_mem 761 (by decide +kernel) (by decide +kernel)
theorem tw_728 : (Jvm.Cond.instanceMethod ({ cls := "TreeChangesModel", name := "put", desc := "(I)V" } : Jvm.MethodName)) ∈ tc_TB := tc_mem 763 (by decide +kernel) (by decide +kernel)
theorem tw_729 : (Jvm.Cond.code ({ cls := "TreeChangesModel", name := "put", desc := "(I)V" } : Jvm.MethodName) prog_7_method_32_code (2 : Nat) (Option.none : Option Jvm.ClassFile.FieldType)) ∈ tc_TB := tc_mem 764 (by decide +kernel) (by decide +kernel)
theorem tw_730 : (Jvm.Cond.methodLink "TreeChangesModel" (124 : Nat) ({ cls := "TreeChangesModel", name := "comes", desc := "(II)V" } : Jvm.MethodName)) ∈ tc_TB := tc_mem 765 (by decide +kernel) (by decide +kernel)
theorem tw_732 : (Jvm.Cond.instanceMethod ({ cls := "TreeChangesModel", name := "comes", desc := "(II)V" } : Jvm.MethodName)) ∈ tc_TB := tc_mem 767 (by decide +kernel) (by decide +kernel)
theorem tw_733 : (Jvm.Cond.code ({ cls := "TreeChangesModel", name := "comes", desc := "(II)V" } : Jvm.MethodName) prog_7_method_34_code (4 : Nat) (Option.none : Option Jvm.ClassFile.FieldType)) ∈ tc_TB := tc_mem 768 (by decide +kernel) (by decide +kernel)
theorem tw_734 : (Jvm.Cond.methodLink "TreeChangesModel" (112 : Nat) ({ cls := "TreeChangesModel", name := "isAlike", desc := "(II)Z" } : Jvm.MethodName)) ∈ tc_TB := tc_mem 769 (by decide +kernel) (by decide +kernel)
theorem tw_736 : (Jvm.Cond.instanceMethod ({ cls := "TreeChangesModel", name := "isAlike", desc := "(II)Z" } : Jvm.MethodName)) ∈ tc_TB := tc_mem 771 (by decide +kernel) (by decide +kernel)
theorem tw_737 : (Jvm.Cond.code ({ cls := "TreeChangesModel", name := "isAlike", desc := "(II)Z" } : Jvm.MethodName) prog_7_method_30_code (5 : Nat) (Option.some Jvm.ClassFile.FieldType.boolean)) ∈ tc_TB := tc_mem 772 (by decide +kernel) (by decide +kernel)
theorem tw_738 : (Jvm.Cond.methodLink "TreeChangesLaw" (97 : Nat) ({ cls := "TreeChangesModel", name := "layer", desc := "(I)I" } : Jvm.MethodName)) ∈ tc_TB := tc_mem 773 (by decide +kernel) (by decide +kernel)
theorem tw_739 : (Jvm.Cond.instanceMethod ({ cls := "TreeChangesModel", name := "layer", desc := "(I)I" } : Jvm.MethodName)) ∈ tc_TB := tc_mem 774 (by decide +kernel) (by decide +kernel)
theorem tw_740 : (Jvm.Cond.selects "TreeChangesModel" ({ cls := "TreeChangesModel", name := "layer", desc := "(I)I" } : Jvm.MethodName) ({ cls := "TreeChangesModel", name := "layer", desc := "(I)I" } : Jvm.MethodName)) ∈ tc_TB := tc_mem 775 (by decide +kernel) (by decide +kernel)
theorem tw_741 : (Jvm.Cond.code ({ cls := "TreeChangesModel", name := "layer", desc := "(I)I" } : Jvm.MethodName) prog_7_method_37_code (2 : Nat) (Option.some Jvm.ClassFile.FieldType.int)) ∈ tc_TB := tc_mem 776 (by decide +kernel) (by decide +kernel)
theorem tw_742 : (Jvm.Cond.methodLink "TreeChangesLaw" (100 : Nat) ({ cls := "TreeChangesModel", name := "apply", desc := "(I)V" } : Jvm.MethodName)) ∈ tc_TB := tc_mem 777 (by decide +kernel) (by decide +kernel)
theorem tw_743 : (Jvm.Cond.instanceMethod ({ cls := "TreeChangesModel", name := "apply", desc := "(I)V" } : Jvm.MethodName)) ∈ tc_TB := tc_mem 778 (by decide +kernel) (by decide +kernel)
theorem tw_744 : (Jvm.Cond.selects "TreeChangesModel" ({ cls := "TreeChangesModel", name := "apply", desc := "(I)V" } : Jvm.MethodName) ({ cls := "TreeChangesModel", name := "apply", desc := "(I)V" } : Jvm.MethodName)) ∈ tc_TB := tc_mem 779 (by decide +kernel) (by decide +kernel)
theorem tw_745 : (Jvm.Cond.code ({ cls := "TreeChangesModel", name := "apply", desc := "(I)V" } : Jvm.MethodName) prog_7_method_39_code (7 : Nat) (Option.none : Option Jvm.ClassFile.FieldType)) ∈ tc_TB := tc_mem 780 (by decide +kernel) (by decide +kernel)
theorem tw_746 : (Jvm.Cond.methodLink "TreeChangesModel" (127 : Nat) ({ cls := "TreeChangesModel", name := "done", desc := "(III)Z" } : Jvm.MethodName)) ∈ tc_TB := tc_mem 781 (by decide +kernel) (by decide +kernel)
theorem tw_748 : (Jvm.Cond.instanceMethod ({ cls := "TreeChangesModel", name := "done", desc := "(III)Z" } : Jvm.MethodName)) ∈ tc_TB := tc_mem 783 (by decide +kernel) (by decide +kernel)
theorem tw_749 : (Jvm.Cond.code ({ cls := "TreeChangesModel", name := "done", desc := "(III)Z" } : Jvm.MethodName) prog_7_method_38_code (6 : Nat) (Option.some Jvm.ClassFile.FieldType.boolean)) ∈ tc_TB := tc_mem 784 (by decide +kernel) (by decide +kernel)
theorem tw_750 : (Jvm.Cond.methodLink "TreeChangesLaw" (105 : Nat) ({ cls := "TreeChangesModel", name := "same", desc := "()Z" } : Jvm.MethodName)) ∈ tc_TB := tc_mem 785 (by decide +kernel) (by decide +kernel)
theorem tw_751 : (Jvm.Cond.instanceMethod ({ cls := "TreeChangesModel", name := "same", desc := "()Z" } : Jvm.MethodName)) ∈ tc_TB := tc_mem 786 (by decide +kernel) (by decide +kernel)
theorem tw_752 : (Jvm.Cond.selects "TreeChangesModel" ({ cls := "TreeChangesModel", name := "same", desc := "()Z" } : Jvm.MethodName) ({ cls := "TreeChangesModel", name := "same", desc := "()Z" } : Jvm.MethodName)) ∈ tc_TB := tc_mem 787 (by decide +kernel) (by decide +kernel)
theorem tw_753 : (Jvm.Cond.code ({ cls := "TreeChangesModel", name := "same", desc := "()Z" } : Jvm.MethodName) prog_7_method_40_code (3 : Nat) (Option.some Jvm.ClassFile.FieldType.boolean)) ∈ tc_TB := tc_mem 788 (by decide +kernel) (by decide +kernel)
theorem tw_754 : (Jvm.Cond.methodLink "TreeChangesLaw" (108 : Nat) ({ cls := "TreeChangesModel", name := "entries", desc := "(I)I" } : Jvm.MethodName)) ∈ tc_TB := tc_mem 789 (by decide +kernel) (by decide +kernel)
theorem tw_755 : (Jvm.Cond.instanceMethod ({ cls := "TreeChangesModel", name := "entries", desc := "(I)I" } : Jvm.MethodName)) ∈ tc_TB := tc_mem 790 (by decide +kernel) (by decide +kernel)
theorem tw_756 : (Jvm.Cond.selects "TreeChangesModel" ({ cls := "TreeChangesModel", name := "entries", desc := "(I)I" } : Jvm.MethodName) ({ cls := "TreeChangesModel", name := "entries", desc := "(I)I" } : Jvm.MethodName)) ∈ tc_TB := tc_mem 791 (by decide +kernel) (by decide +kernel)
theorem tw_757 : (Jvm.Cond.code ({ cls := "TreeChangesModel", name := "entries", desc := "(I)I" } : Jvm.MethodName) prog_7_method_41_code (2 : Nat) (Option.some Jvm.ClassFile.FieldType.int)) ∈ tc_TB := tc_mem 792 (by decide +kernel) (by decide +kernel)
theorem tw_758 : (Jvm.Cond.methodLink "TreeChangesLaw" (112 : Nat) ({ cls := "TreeChangesModel", name := "entry", desc := "(III)I" } : Jvm.MethodName)) ∈ tc_TB := tc_mem 793 (by decide +kernel) (by decide +kernel)
theorem tw_759 : (Jvm.Cond.instanceMethod ({ cls := "TreeChangesModel", name := "entry", desc := "(III)I" } : Jvm.MethodName)) ∈ tc_TB := tc_mem 794 (by decide +kernel) (by decide +kernel)
theorem tw_760 : (Jvm.Cond.selects "TreeChangesModel" ({ cls := "TreeChangesModel", name := "entry", desc := "(III)I" } : Jvm.MethodName) ({ cls := "TreeChangesModel", name := "entry", desc := "(III)I" } : Jvm.MethodName)) ∈ tc_TB := tc_mem 795 (by decide +kernel) (by decide +kernel)
theorem tw_761 : (Jvm.Cond.code ({ cls := "TreeChangesModel", name := "entry", desc := "(III)I" } : Jvm.MethodName) prog_7_method_42_code (6 : Nat) (Option.some Jvm.ClassFile.FieldType.int)) ∈ tc_TB := tc_mem 796 (by decide +kernel) (by decide +kernel)
theorem tw_762 : (Jvm.Cond.arrayClass Jvm.ClassFile.FieldType.long) ∈ tc_TB := tc_mem 797 (by decide +kernel) (by decide +kernel)
theorem tw_763 : (Jvm.Cond.sameMethod "java/lang/Throwable" "java/lang/Throwable" "fillInStackTrace" "(I)Ljava/lang/Throwable;") ∈ tc_TB := tc_mem 798 (by decide +kernel) (by decide +kernel)
end
section
/-! THE LAYER. A virtual heap is a list of entries (tag, contents); an object is named by its place. tag: the number of its kind in tc_cl, or 100 byte[], 101 int[], 102 long[], 103 Entry[]. A value '.retAddr q' stands for the machine's own cell q (the script, an exception). -/
abbrev tv_E : Type := Nat × List Value
abbrev tv_H : Type := List tv_E
/-- the script: its cell, its length, its ints -/
abbrev tv_G : Type := Nat × Nat × (Nat → Int32)
/-- a method: name, bytes, locals, what it returns, its table of handlers, frames, words -/
abbrev tv_M : Type := MethodName × ByteArray × Nat × Option FieldType × List (Nat × Nat × Nat × Nat) × Nat × Nat
abbrev tv_R : Type := Option Value ⊕ String
def tv_v (as : List Nat) (v w : Value) : Prop := match v with
  | .ref a => ∃ q, as[a]? = some q ∧ w = .ref q
  | .retAddr q => w = .ref q
  | x => w = x
def tv_vs (as : List Nat) : List Value → List Value → Prop
  | [], [] => True
  | v :: vs, w :: ws => tv_v as v w ∧ tv_vs as vs ws
  | _, _ => False
def tv_e (as : List Nat) (ct : Nat → ClassId) (e : tv_E) (x : va_E) : Prop := match x with
  | .inr o => e.1 = o.1 ∧ o.1 < 100 ∧ tv_vs as e.2 o.2
  | .inl (cA, n, .inl f) => ∃ t, e.1 = 100 + t ∧ t < 2 ∧ cA = ct t ∧ n = e.2.length ∧ ∀ i, i < n → e.2[i]? = some (.int (f i))
  | .inl (cA, n, .inr (.inl f)) => e.1 = 102 ∧ cA = ct 2 ∧ n = e.2.length ∧ ∀ i, i < n → e.2[i]? = some (.long (f i))
  | .inl (cA, n, .inr (.inr (.inr (.inr g)))) => e.1 = 103 ∧ cA = ct 3 ∧ n = e.2.length ∧ ∀ i, i < n → ∃ v, e.2[i]? = some v ∧ tv_v as v (va_rf (g i))
  | _ => False
def tv_hs (as : List Nat) (ct : Nat → ClassId) : tv_H → va_W → Prop
  | [], [] => True
  | e :: h, x :: ws => tv_e as ct e x.2 ∧ tv_hs as ct h ws
  | _, _ => False
theorem tv_v.mono {as bs : List Nat} (h : as <+: bs) {v w : Value} (hv : tv_v as v w) : tv_v bs v w := by
  cases v with
  | ref a =>
    obtain ⟨q, h1, h2⟩ := hv
    obtain ⟨t, rfl⟩ := h
    exact ⟨q, by rw [List.getElem?_append_left (List.getElem?_eq_some_iff.mp h1).1]; exact h1, h2⟩
  | _ => exact hv
theorem tv_vs.mono {as bs : List Nat} (h : as <+: bs) : ∀ {vs ws : List Value}, tv_vs as vs ws → tv_vs bs vs ws
  | [], [], _ => trivial
  | _ :: _, _ :: _, hv => ⟨hv.1.mono h, tv_vs.mono h hv.2⟩
theorem tv_e.mono {as bs : List Nat} (h : as <+: bs) {ct : Nat → ClassId} {e : tv_E} {x : va_E} (he : tv_e as ct e x) : tv_e bs ct e x := by
  rcases x with ⟨cA, n, f | f | f | f | g⟩ | o
  · exact he
  · exact he
  · exact he
  · exact he
  · obtain ⟨h1, h2, h3, h4⟩ := he
    exact ⟨h1, h2, h3, fun i hi => by obtain ⟨v, e1, e2⟩ := h4 i hi; exact ⟨v, e1, e2.mono h⟩⟩
  · exact ⟨he.1, he.2.1, he.2.2.mono h⟩
theorem tv_hs.mono {as bs : List Nat} (h : as <+: bs) {ct : Nat → ClassId} : ∀ {hh : tv_H} {ws : va_W}, tv_hs as ct hh ws → tv_hs bs ct hh ws
  | [], [], _ => trivial
  | _ :: _, _ :: _, hv => ⟨hv.1.mono h, tv_hs.mono h hv.2⟩
theorem tv_vs.cons {as : List Nat} {v : Value} {vs ws : List Value} (h : tv_vs as (v :: vs) ws) : ∃ w ws', ws = w :: ws' ∧ tv_v as v w ∧ tv_vs as vs ws' := by
  cases ws with
  | nil => exact h.elim
  | cons w ws' => exact ⟨w, ws', rfl, h.1, h.2⟩
theorem tv_vs.nil {as : List Nat} {ws : List Value} (h : tv_vs as [] ws) : ws = [] := by
  cases ws with
  | nil => rfl
  | cons w ws' => exact h.elim
theorem tv_vs.len {as : List Nat} : ∀ {vs ws : List Value}, tv_vs as vs ws → vs.length = ws.length
  | [], [], _ => rfl
  | _ :: _, _ :: _, h => by rw [List.length_cons, List.length_cons, tv_vs.len h.2]
theorem tv_vs.get {as : List Nat} : ∀ {vs ws : List Value} {i : Nat} {v : Value}, tv_vs as vs ws → vs[i]? = some v → ∃ w, ws[i]? = some w ∧ tv_v as v w
  | [], [], i, v, _, hi => by simp at hi
  | a :: _, b :: _, 0, v, h, hi => by
    simp at hi
    subst hi
    exact ⟨b, rfl, h.1⟩
  | _ :: _, _ :: _, i + 1, v, h, hi => by
    rw [List.getElem?_cons_succ] at hi
    obtain ⟨w, h1, h2⟩ := tv_vs.get h.2 hi
    exact ⟨w, by rw [List.getElem?_cons_succ]; exact h1, h2⟩
theorem tv_vs.set {as : List Nat} {v w : Value} (hv : tv_v as v w) : ∀ {vs ws : List Value} {i : Nat}, tv_vs as vs ws → tv_vs as (vs.set i v) (ws.set i w)
  | [], [], i, _ => by simp [tv_vs]
  | _ :: _, _ :: _, 0, h => ⟨hv, h.2⟩
  | _ :: _, _ :: _, i + 1, h => ⟨h.1, tv_vs.set hv h.2⟩
theorem tv_vs.app {as : List Nat} : ∀ {a b c d : List Value}, tv_vs as a b → tv_vs as c d → tv_vs as (a ++ c) (b ++ d)
  | [], [], _, _, _, h => h
  | _ :: _, _ :: _, _, _, h1, h2 => ⟨h1.1, tv_vs.app h1.2 h2⟩
theorem tv_vs.rev {as : List Nat} : ∀ {a b : List Value}, tv_vs as a b → tv_vs as a.reverse b.reverse
  | [], [], h => h
  | _ :: _, _ :: _, h => by
    rw [List.reverse_cons, List.reverse_cons]
    exact (tv_vs.rev h.2).app ⟨h.1, trivial⟩
/-- a stack that begins with some arguments -/
theorem tv_vs.split {as : List Nat} : ∀ {a c d : List Value}, tv_vs as (a ++ c) d → ∃ b e, d = b ++ e ∧ tv_vs as a b ∧ tv_vs as c e
  | [], c, d, h => ⟨[], d, rfl, trivial, h⟩
  | _ :: _, c, [], h => h.elim
  | v :: a, c, w :: d, h => by
    obtain ⟨b, e, h1, h2, h3⟩ := tv_vs.split (a := a) h.2
    exact ⟨w :: b, e, by rw [h1]; rfl, ⟨h.1, h2⟩, h3⟩
theorem tv_v.cat {as : List Nat} {v w : Value} (h : tv_v as v w) : w.category = v.category := by
  cases v with
  | ref a => obtain ⟨q, -, rfl⟩ := h; rfl
  | retAddr q => have h : w = .ref q := h; subst h; rfl
  | int x => have h : w = .int x := h; subst h; rfl
  | long x => have h : w = .long x := h; subst h; rfl
  | float x => have h : w = .float x := h; subst h; rfl
  | double x => have h : w = .double x := h; subst h; rfl
  | null => have h : w = .null := h; subst h; rfl
theorem tv_vs.cats {as : List Nat} : ∀ {vs ws : List Value}, tv_vs as vs ws → (ws.map fun v => v.category).sum = (vs.map fun v => v.category).sum
  | [], [], _ => rfl
  | _ :: _, _ :: _, h => by rw [List.map_cons, List.map_cons, List.sum_cons, List.sum_cons, h.1.cat, tv_vs.cats h.2]
theorem tv_hs.len {as : List Nat} {ct : Nat → ClassId} : ∀ {h : tv_H} {ws : va_W}, tv_hs as ct h ws → h.length = ws.length
  | [], [], _ => rfl
  | _ :: _, _ :: _, h => by rw [List.length_cons, List.length_cons, tv_hs.len h.2]
theorem tv_hs.get {as : List Nat} {ct : Nat → ClassId} : ∀ {h : tv_H} {ws : va_W} {a : Nat} {e : tv_E}, tv_hs as ct h ws → h[a]? = some e → ∃ q x, ws[a]? = some (q, x) ∧ tv_e as ct e x
  | [], [], a, e, _, hi => by simp at hi
  | e0 :: _, b :: _, 0, e, h, hi => by
    simp at hi
    subst hi
    exact ⟨b.1, b.2, rfl, h.1⟩
  | _ :: _, _ :: _, i + 1, v, h, hi => by
    rw [List.getElem?_cons_succ] at hi
    obtain ⟨q, x, h1, h2⟩ := tv_hs.get h.2 hi
    exact ⟨q, x, by rw [List.getElem?_cons_succ]; exact h1, h2⟩
theorem tv_hs.set {as : List Nat} {ct : Nat → ClassId} {e : tv_E} {q : Nat} {x : va_E} (he : tv_e as ct e x) : ∀ {h : tv_H} {ws : va_W} {i : Nat}, tv_hs as ct h ws → tv_hs as ct (h.set i e) (ws.set i (q, x))
  | [], [], i, _ => by simp [tv_hs]
  | _ :: _, _ :: _, 0, h => ⟨he, h.2⟩
  | _ :: _, _ :: _, i + 1, h => ⟨h.1, tv_hs.set he h.2⟩
theorem tv_hs.push {as : List Nat} {ct : Nat → ClassId} {e : tv_E} {q : Nat} {x : va_E} (he : tv_e as ct e x) : ∀ {h : tv_H} {ws : va_W}, tv_hs as ct h ws → tv_hs as ct (h ++ [e]) (ws ++ [(q, x)])
  | [], [], _ => ⟨he, trivial⟩
  | _ :: _, _ :: _, h => ⟨h.1, tv_hs.push he h.2⟩
theorem tv_fst_set {ws : va_W} {i q : Nat} {x y : va_E} (h : ws[i]? = some (q, x)) : (ws.set i (q, y)).map Prod.fst = ws.map Prod.fst := by
  apply List.ext_getElem?
  intro j
  rw [List.getElem?_map, List.getElem?_map, List.getElem?_set]
  by_cases hj : i = j
  · subst hj
    have hl := (List.getElem?_eq_some_iff.mp h).1
    rw [if_pos rfl, if_pos hl, h]
    rfl
  · rw [if_neg hj]
/-- the world: the cells, and what they are -/
def tv_W (D : va_G) (ct : Nat → ClassId) (A : Nat → Prop) (h : tv_H) (ws : va_W) (H : Heap) : Prop := va_P D tc_cl ws H ∧ va_D A ws ∧ tv_hs (ws.map Prod.fst) ct h ws
def tv_ty (ct : Nat → ClassId) : List (ClassId × FieldType) := [(ct 0, .byte), (ct 1, .int), (ct 2, .long), (ct 3, .object "TreeChanges$Entry")]
def tv_strs : List (Nat × String) := [(184, "no such tree"), (68, "no path, it is in the tree, or nothing to hold it"), (78, "the tree is full"), (89, "no path, or nothing to hold it"), (91, "it is a directory"), (108, "no path, or it is no file"), (117, "the file would have too many bytes"), (119, "no path, or nothing there"), (127, "the signs are no path"), (134, "it can't come to the other path"), (153, "the layer has no such byte"), (169, "the layer can't be applied"), (178, "no such what"), (180, "no such entry")]
def tv_nc : List (String × String) := [("java/lang/IllegalArgumentException", "java/lang/IllegalStateException"), ("java/lang/IllegalArgumentException", "java/lang/UnsupportedOperationException"), ("java/lang/IllegalArgumentException", "java/lang/IndexOutOfBoundsException"), ("java/lang/IllegalStateException", "java/lang/IllegalArgumentException"), ("java/lang/IllegalStateException", "java/lang/UnsupportedOperationException"), ("java/lang/IllegalStateException", "java/lang/IndexOutOfBoundsException"), ("java/lang/UnsupportedOperationException", "java/lang/IllegalArgumentException"), ("java/lang/UnsupportedOperationException", "java/lang/IllegalStateException"), ("java/lang/UnsupportedOperationException", "java/lang/IndexOutOfBoundsException"), ("java/lang/IndexOutOfBoundsException", "java/lang/IllegalArgumentException"), ("java/lang/IndexOutOfBoundsException", "java/lang/IllegalStateException"), ("java/lang/IndexOutOfBoundsException", "java/lang/UnsupportedOperationException")]
/-- what a state says at a method's entry -/
def tv_S (G : tv_G) (D : va_G) (ct : Nat → ClassId) (A : Nat → Prop) (s : State) : Prop :=
  va_K D tc_cl (tv_ty ct) s ∧ (∀ q ∈ tv_strs, ∃ a, vk_R "TreeChanges" q.1 q.2 a s) ∧ va_AO "TreeChanges$Entry" s ∧ (∀ q ∈ tv_nc, va_Nc q.1 q.2 s) ∧
  vx_Zq Bundle.tN "UNASSIGNED_STACK" Bundle.steD A s s.heap ∧ vx_Zq Bundle.tN "SUPPRESSED_SENTINEL" Bundle.listD A s s.heap ∧ va_X G.1 G.2.1 G.2.2 s s.heap ∧ G.1 < s.heap.size ∧ ¬ A G.1
theorem tv_S.call {G : tv_G} {D : va_G} {ct : Nat → ClassId} {A B : Nat → Prop} {s U : State} {H : Heap} {locs : List Loc} (h : tv_S G D ct A s) (hS : va_S A s.heap H locs) (hU : U.heap = H) (hW : s.WarmedH U.vm) (hB : ∀ q, B q → A q) : tv_S G D ct B U := by
  obtain ⟨h1, h2, h3, h4, h5, h6, h7, h8, h9⟩ := h
  refine ⟨va_K.moved hW.alike h1, fun q hq => ?_, va_AO.moved hW.alike h3, fun q hq => va_Nc.moved hW.alike (h4 q hq), ?_, ?_, ?_, ?_, fun z => h9 (hB _ z)⟩
  · obtain ⟨a, ha⟩ := h2 q hq
    exact ⟨a, vk_R.warm hW ha⟩
  · rw [hU]
    exact ((h5.kept hS.2.1).moved hW.alike).narrow hB
  · rw [hU]
    exact ((h6.kept hS.2.1).moved hW.alike).narrow hB
  · rw [hU]
    exact va_X.moved hW.alike (va_X.kept h7 (hS.2.1 _ h8 h9))
  · rw [hU]
    exact Nat.lt_of_lt_of_le h8 hS.1
theorem tv_S.calling {G : tv_G} {D : va_G} {ct : Nat → ClassId} {A : Nat → Prop} {U : State} {g : JFrame} {mk : MethodId} {a : Array Value} (h : tv_S G D ct A U) : tv_S G D ct A (U.calling g mk a) :=
  tv_S.call (H := U.heap) (locs := []) h va_S.rf rfl (State.WarmedH.refl U) (fun _ q => q)
/-- where a method stands -/
def tv_C (k : tv_M) (p : Program) (l : Launch) (R : Room) (s : State) (m : MethodId) (args : Array Value) (meth : Method) (cd : Code) : Prop :=
  l.stackTraces = false ∧ p.tables.exec = Jvm.exec ∧ cd.code = k.2.1 ∧ meth.sig.returnType = k.2.2.2.1 ∧ cd.maxLocals = k.2.2.1 ∧ s.vm.findClass k.1.cls = some m.cls ∧ (∀ w ∈ tc_TB, w.before args s = true) ∧ meth.locks = false ∧
  cd.exceptionTable.toList = tableOf k.2.2.2.2.1 ∧ meth.name = k.1.name ∧ k.2.2.2.2.2.1 ≤ R.frames ∧ k.2.2.2.2.2.2 ≤ R.locals
def tv_L (as : List Nat) (ls : List (Option Value)) (lsm : Array Slot) (n : Nat) : Prop := ls.length = n ∧ ∃ lv, lv_has lsm n lv ∧ ∀ i v, ls[i]? = some (some v) → ∃ w, tv_v as v w ∧ w.category = 1 ∧ (i, w) ∈ lv
theorem tv_L.mono {as bs : List Nat} (h : as <+: bs) {ls : List (Option Value)} {lsm : Array Slot} {n : Nat} (hl : tv_L as ls lsm n) : tv_L bs ls lsm n := by
  obtain ⟨h0, lv, h1, h2⟩ := hl
  refine ⟨h0, lv, h1, fun i v hi => ?_⟩
  obtain ⟨w, e1, e2⟩ := h2 i v hi
  exact ⟨w, e1.mono h, e2⟩
theorem tv_L.get {as : List Nat} {ls : List (Option Value)} {lsm : Array Slot} {n i : Nat} {v : Value} (hl : tv_L as ls lsm n) (hi : ls[i]? = some (some v)) : ∃ w, tv_v as v w ∧ lsm[i]? = some (.val w) := by
  obtain ⟨h0, lv, h1, h2⟩ := hl
  obtain ⟨w, e1, e2, e3⟩ := h2 i v hi
  exact ⟨w, e1, h1.2.2 _ e3⟩
theorem tv_L.set {as : List Nat} {ls : List (Option Value)} {lsm : Array Slot} {n i : Nat} {v w : Value} {lv : List (Nat × Value)} (h0 : ls.length = n) (h2 : ∀ i v, ls[i]? = some (some v) → ∃ w, tv_v as v w ∧ w.category = 1 ∧ (i, w) ∈ lv)
    (hv : tv_v as v w) (hc : w.category = 1) (h : lv_has lsm n ((i, w) :: lv.filter (fun q => !(q.1 == i) && !(q.1 + 1 == i && q.2.category == 2)))) : tv_L as (ls.set i (some v)) lsm n := by
  refine ⟨by rw [List.length_set]; exact h0, _, h, fun j u hj => ?_⟩
  rw [List.getElem?_set] at hj
  by_cases hij : i = j
  · subst hij
    rw [if_pos rfl] at hj
    split at hj
    · cases hj
      exact ⟨w, hv, hc, List.mem_cons_self⟩
    · cases hj
  · rw [if_neg hij] at hj
    obtain ⟨w', e1, e2, e3⟩ := h2 j u hj
    refine ⟨w', e1, e2, List.mem_cons_of_mem _ (List.mem_filter.mpr ⟨e3, ?_⟩)⟩
    have q1 : (j == i) = false := by simpa using (fun e => hij e.symm)
    have q2 : (w'.category == 2) = false := by rw [e2]; rfl
    simp [q1, q2]
def tv_ov (as : List Nat) (v w : Option Value) : Prop := match v, w with
  | none, none => True
  | some v, some w => tv_v as v w
  | _, _ => False
def tv_Qc (D : va_G) (ct : Nat → ClassId) (A : Nat → Prop) (as0 : List Nat) (Q : tv_R → tv_H → Prop) : Array Value → State → Outcome → State → Prop := fun _ st o t =>
  (∃ (v w : Option Value) (h' : tv_H) (ws' : va_W), o = .returned w ∧ tv_ov (ws'.map Prod.fst) v w ∧ Q (.inl v) h' ∧ tv_W D ct A h' ws' t.heap ∧ as0 <+: ws'.map Prod.fst) ∧ va_F A st t
def tv_XC (D : va_G) (ct : Nat → ClassId) (A : Nat → Prop) (as0 : List Nat) (Q : tv_R → tv_H → Prop) : String → State → State → Prop := fun E st t =>
  (∃ (h' : tv_H) (ws' : va_W), Q (.inr E) h' ∧ tv_W D ct A h' ws' t.heap ∧ as0 <+: ws'.map Prod.fst) ∧ va_F A st t
/-- all that holds along a walk -/
def tv_I (G : tv_G) (k : tv_M) (ls : List (Option Value)) (h : tv_H) (c z : Nat) (p : Program) (l : Launch) (R : Room) (s : State) (m : MethodId) (args : Array Value) (meth : Method) (cd : Code) (H : Heap) (locs : List Loc) (cells slots mc ms : Nat) (D : va_G) (ct : Nat → ClassId) (A : Nat → Prop) (as0 : List Nat) (ws : va_W) (lsm : Array Slot) : Prop :=
  tv_C k p l R s m args meth cd ∧ tv_S G D ct A s ∧ (∀ q, s.heap.size ≤ q → A q) ∧ tv_W D ct A h ws H ∧ va_S A s.heap H locs ∧ as0 <+: ws.map Prod.fst ∧ tv_L (ws.map Prod.fst) ls lsm k.2.2.1 ∧ cells + c ≤ mc ∧ slots + z ≤ ms ∧ mc ≤ R.cells ∧ ms ≤ R.slots
/-- from here the method comes to an end that Q takes -/
def tv_Ev (G : tv_G) (k : tv_M) (pc : Nat) (ls : List (Option Value)) (st : List Value) (h : tv_H) (c z : Nat) (Q : tv_R → tv_H → Prop) : Prop :=
  ∀ (p : Program) (l : Launch) (e : Env) (R : Room) (s : State) (m : MethodId) (args : Array Value) (below : List Frame) (meth : Method) (cd : Code) (H : Heap) (locs : List Loc) (cells slots mc ms : Nat) (D : va_G) (ct : Nat → ClassId) (A : Nat → Prop) (as0 : List Nat) (ws : va_W) (lsm : Array Slot) (stm : List Value),
    tv_I G k ls h c z p l R s m args meth cd H locs cells slots mc ms D ct A as0 ws lsm → tv_vs (ws.map Prod.fst) st stm →
    W p l e R s m args below meth cd H locs cells slots (vx_MQ below (tv_Qc D ct A as0 Q) (tv_XC D ct A as0 Q) args s mc ms A) (F0 m pc lsm stm)
def tv_hw (k : tv_M) : Cond := match k.2.2.2.2.1 with
  | [] => .code k.1 k.2.1 k.2.2.1 k.2.2.2.1
  | hh => .codeWith k.1 k.2.1 k.2.2.1 k.2.2.2.1 hh
def tv_rm (k : tv_M) (mc ms : Nat) : Room := { frames := k.2.2.2.2.2.1, cells := mc, slots := ms, locals := k.2.2.2.2.2.2 }
/-- a method's contract: called with vs in the heap h it ends as Q says; at most mc cells of ms slots are new -/
def tv_Ct (G : tv_G) (k : tv_M) (vs : List Value) (h : tv_H) (mc ms : Nat) (Q : tv_R → tv_H → Prop) : Prop :=
  ∀ (l : Launch), l.stackTraces = false → ∀ (D : va_G) (ct : Nat → ClassId) (ws : va_W) (vm : List Value) (sz : Nat), tv_vs (ws.map Prod.fst) vs vm →
    vx_Met l k.1 (tv_hw k :: tc_TB) (tv_rm k mc ms) (va_Pc vm (fun U => U.heap.size = sz ∧ tv_W D ct (fun _ => True) h ws U.heap ∧ tv_S G D ct (va_A ws sz) U))
      (tv_Qc D ct (va_A ws sz) (ws.map Prod.fst) Q) (tv_XC D ct (va_A ws sz) (ws.map Prod.fst) Q) mc ms (va_A ws sz)
end
section
/-! THE RULES: one a kind of instruction; by program (wip/tools/gen05.py) -/
section
variable {G : tv_G} {k : tv_M} {pc : Nat} {ls : List (Option Value)} {st : List Value} {h : tv_H} {c z : Nat} {Q : tv_R → tv_H → Prop}
theorem ev_iconst {n : Int} (v : Int32) (hd : decode k.2.1 pc = .ok (.iconst n, 1)) (hv : Int32.ofInt n = v) (kk : tv_Ev G k (pc + 1) ls (.int v :: st) h c z Q) : tv_Ev G k pc ls st h c z Q := by
  intro p l e R s m args below meth cd H locs cells slots mc ms D ct A as0 ws lsm stm I hT
  exact lv_iconst I.1.2.1 I.1.2.2.1 hd hv (kk p l e R s m args below meth cd H locs cells slots mc ms D ct A as0 ws lsm _ I ⟨rfl, hT⟩)
theorem ev_bipush {n : Int} (v : Int32) (hd : decode k.2.1 pc = .ok (.bipush n, 2)) (hv : (Int8.ofInt n).toInt32 = v) (kk : tv_Ev G k (pc + 2) ls (.int v :: st) h c z Q) : tv_Ev G k pc ls st h c z Q := by
  intro p l e R s m args below meth cd H locs cells slots mc ms D ct A as0 ws lsm stm I hT
  exact lv_bipush I.1.2.1 I.1.2.2.1 hd hv (kk p l e R s m args below meth cd H locs cells slots mc ms D ct A as0 ws lsm _ I ⟨rfl, hT⟩)
theorem ev_sipush {n : Int} (v : Int32) (hd : decode k.2.1 pc = .ok (.sipush n, 3)) (hv : (Int16.ofInt n).toInt32 = v) (kk : tv_Ev G k (pc + 3) ls (.int v :: st) h c z Q) : tv_Ev G k pc ls st h c z Q := by
  intro p l e R s m args below meth cd H locs cells slots mc ms D ct A as0 ws lsm stm I hT
  exact lv_sipush I.1.2.1 I.1.2.2.1 hd hv (kk p l e R s m args below meth cd H locs cells slots mc ms D ct A as0 ws lsm _ I ⟨rfl, hT⟩)
theorem ev_iload_n {j : Fin 4} {i : Nat} {x : Int32} (hd : decode k.2.1 pc = .ok (.iload_n j, 1)) (hi : (j : Nat) = i) (hl : ls[i]? = some (some (.int x))) (kk : tv_Ev G k (pc + 1) ls (.int x :: st) h c z Q) : tv_Ev G k pc ls st h c z Q := by
  intro p l e R s m args below meth cd H locs cells slots mc ms D ct A as0 ws lsm stm I hT
  obtain ⟨w, hw, hg⟩ := I.2.2.2.2.2.2.1.get hl
  have hw : w = .int x := hw
  subst hw
  exact lv_iload_n I.1.2.1 I.1.2.2.1 hd hi hg (kk p l e R s m args below meth cd H locs cells slots mc ms D ct A as0 ws lsm _ I ⟨rfl, hT⟩)
theorem ev_iload {i : Nat} {x : Int32} (hd : decode k.2.1 pc = .ok (.iload i, 2)) (hl : ls[i]? = some (some (.int x))) (kk : tv_Ev G k (pc + 2) ls (.int x :: st) h c z Q) : tv_Ev G k pc ls st h c z Q := by
  intro p l e R s m args below meth cd H locs cells slots mc ms D ct A as0 ws lsm stm I hT
  obtain ⟨w, hw, hg⟩ := I.2.2.2.2.2.2.1.get hl
  have hw : w = .int x := hw
  subst hw
  exact lv_iload I.1.2.1 I.1.2.2.1 hd hg (kk p l e R s m args below meth cd H locs cells slots mc ms D ct A as0 ws lsm _ I ⟨rfl, hT⟩)
theorem ev_aload_n {j : Fin 4} {i : Nat} {x : Nat} (hd : decode k.2.1 pc = .ok (.aload_n j, 1)) (hi : (j : Nat) = i) (hl : ls[i]? = some (some (.ref x))) (kk : tv_Ev G k (pc + 1) ls (.ref x :: st) h c z Q) : tv_Ev G k pc ls st h c z Q := by
  intro p l e R s m args below meth cd H locs cells slots mc ms D ct A as0 ws lsm stm I hT
  obtain ⟨w, ⟨q, hq, hw⟩, hg⟩ := I.2.2.2.2.2.2.1.get hl
  subst hw
  exact lv_aload_n I.1.2.1 I.1.2.2.1 hd hi hg (kk p l e R s m args below meth cd H locs cells slots mc ms D ct A as0 ws lsm _ I ⟨⟨q, hq, rfl⟩, hT⟩)
theorem ev_aload_nX {j : Fin 4} {i : Nat} {x : Nat} (hd : decode k.2.1 pc = .ok (.aload_n j, 1)) (hi : (j : Nat) = i) (hl : ls[i]? = some (some (.retAddr x))) (kk : tv_Ev G k (pc + 1) ls (.retAddr x :: st) h c z Q) : tv_Ev G k pc ls st h c z Q := by
  intro p l e R s m args below meth cd H locs cells slots mc ms D ct A as0 ws lsm stm I hT
  obtain ⟨w, hw, hg⟩ := I.2.2.2.2.2.2.1.get hl
  have hw : w = .ref x := hw
  subst hw
  exact lv_aload_n I.1.2.1 I.1.2.2.1 hd hi hg (kk p l e R s m args below meth cd H locs cells slots mc ms D ct A as0 ws lsm _ I ⟨rfl, hT⟩)
theorem ev_aload {i : Nat} {x : Nat} (hd : decode k.2.1 pc = .ok (.aload i, 2)) (hl : ls[i]? = some (some (.ref x))) (kk : tv_Ev G k (pc + 2) ls (.ref x :: st) h c z Q) : tv_Ev G k pc ls st h c z Q := by
  intro p l e R s m args below meth cd H locs cells slots mc ms D ct A as0 ws lsm stm I hT
  obtain ⟨w, ⟨q, hq, hw⟩, hg⟩ := I.2.2.2.2.2.2.1.get hl
  subst hw
  exact lv_aload I.1.2.1 I.1.2.2.1 hd hg (kk p l e R s m args below meth cd H locs cells slots mc ms D ct A as0 ws lsm _ I ⟨⟨q, hq, rfl⟩, hT⟩)
theorem ev_aloadX {i : Nat} {x : Nat} (hd : decode k.2.1 pc = .ok (.aload i, 2)) (hl : ls[i]? = some (some (.retAddr x))) (kk : tv_Ev G k (pc + 2) ls (.retAddr x :: st) h c z Q) : tv_Ev G k pc ls st h c z Q := by
  intro p l e R s m args below meth cd H locs cells slots mc ms D ct A as0 ws lsm stm I hT
  obtain ⟨w, hw, hg⟩ := I.2.2.2.2.2.2.1.get hl
  have hw : w = .ref x := hw
  subst hw
  exact lv_aload I.1.2.1 I.1.2.2.1 hd hg (kk p l e R s m args below meth cd H locs cells slots mc ms D ct A as0 ws lsm _ I ⟨rfl, hT⟩)
theorem tv_I.loc {ls' : List (Option Value)} {lsm' : Array Slot} {p : Program} {l : Launch} {R : Room} {s : State} {m : MethodId} {args : Array Value} {meth : Method} {cd : Code} {H : Heap} {locs : List Loc} {cells slots mc ms : Nat} {D : va_G} {ct : Nat → ClassId} {A : Nat → Prop} {as0 : List Nat} {ws : va_W} {lsm : Array Slot}
    (I : tv_I G k ls h c z p l R s m args meth cd H locs cells slots mc ms D ct A as0 ws lsm) (hl : tv_L (ws.map Prod.fst) ls' lsm' k.2.2.1) : tv_I G k ls' h c z p l R s m args meth cd H locs cells slots mc ms D ct A as0 ws lsm' := by
  obtain ⟨i1, i2, i3, i4, i5, i6, -, i8⟩ := I
  exact ⟨i1, i2, i3, i4, i5, i6, hl, i8⟩
theorem tv_I.heap {h' : tv_H} {ws' : va_W} {H1 : Heap} {locs1 : List Loc} {p : Program} {l : Launch} {R : Room} {s : State} {m : MethodId} {args : Array Value} {meth : Method} {cd : Code} {H : Heap} {locs : List Loc} {cells slots mc ms : Nat} {D : va_G} {ct : Nat → ClassId} {A : Nat → Prop} {as0 : List Nat} {ws : va_W} {lsm : Array Slot}
    (I : tv_I G k ls h c z p l R s m args meth cd H locs cells slots mc ms D ct A as0 ws lsm) (hP : va_P D tc_cl ws' H1) (hD : va_D A ws') (hS : va_S A s.heap H1 locs1) (hf : ws'.map Prod.fst = ws.map Prod.fst) (hh : tv_hs (ws.map Prod.fst) ct h' ws') :
    tv_I G k ls h' c z p l R s m args meth cd H1 locs1 cells slots mc ms D ct A as0 ws' lsm := by
  obtain ⟨i1, i2, i3, i4, i5, i6, i7, i8⟩ := I
  exact ⟨i1, i2, i3, ⟨hP, hD, by rw [hf]; exact hh⟩, hS, by rw [hf]; exact i6, by rw [hf]; exact i7, i8⟩
/-- a new cell -/
theorem tv_I.push {e : tv_E} {q : Nat} {x : va_E} {n : Nat} {H1 : Heap} {locs1 : List Loc} {p : Program} {l : Launch} {R : Room} {s : State} {m : MethodId} {args : Array Value} {meth : Method} {cd : Code} {H : Heap} {locs : List Loc} {cells slots mc ms : Nat} {D : va_G} {ct : Nat → ClassId} {A : Nat → Prop} {as0 : List Nat} {ws : va_W} {lsm : Array Slot}
    (I : tv_I G k ls h (c + 1) (z + n) p l R s m args meth cd H locs cells slots mc ms D ct A as0 ws lsm) (hP : va_P D tc_cl (ws ++ [(q, x)]) H1) (hD : va_D A (ws ++ [(q, x)])) (hS : va_S A s.heap H1 locs1) (he : tv_e ((ws ++ [(q, x)]).map Prod.fst) ct e x) :
    tv_I G k ls (h ++ [e]) c z p l R s m args meth cd H1 locs1 (cells + 1) (slots + n) mc ms D ct A as0 (ws ++ [(q, x)]) lsm := by
  obtain ⟨i1, i2, i3, ⟨j1, j2, j3⟩, i5, i6, i7, i8, i9, i10⟩ := I
  have hpre : ws.map Prod.fst <+: (ws ++ [(q, x)]).map Prod.fst := by rw [List.map_append]; exact List.prefix_append _ _
  exact ⟨i1, i2, i3, ⟨hP, hD, (j3.mono hpre).push he⟩, hS, i6.trans hpre, i7.mono hpre, by omega, by omega, i10⟩
theorem ev_istore_n {j : Fin 4} {i : Nat} {x : Int32} (hd : decode k.2.1 pc = .ok (.istore_n j, 1)) (hi : (j : Nat) = i) (hi2 : i < ls.length) (kk : tv_Ev G k (pc + 1) (ls.set i (some (.int x))) st h c z Q) : tv_Ev G k pc ls (.int x :: st) h c z Q := by
  intro p l e R s m args below meth cd H locs cells slots mc ms D ct A as0 ws lsm stm I hT
  obtain ⟨w, s1, rfl, hw, hR⟩ := hT.cons
  have hw : w = .int x := hw
  subst hw
  obtain ⟨h0, lv, h1, h2⟩ := id I.2.2.2.2.2.2.1
  exact lv_istore_n I.1.2.1 I.1.2.2.1 hd hi h1 (h0 ▸ hi2) rfl (fun lsm' hl' => kk p l e R s m args below meth cd H locs cells slots mc ms D ct A as0 ws lsm' _ (I.loc (tv_L.set h0 h2 (v := .int x) rfl rfl hl')) hR)
theorem ev_istore {i : Nat} {x : Int32} (hd : decode k.2.1 pc = .ok (.istore i, 2)) (hi2 : i < ls.length) (kk : tv_Ev G k (pc + 2) (ls.set i (some (.int x))) st h c z Q) : tv_Ev G k pc ls (.int x :: st) h c z Q := by
  intro p l e R s m args below meth cd H locs cells slots mc ms D ct A as0 ws lsm stm I hT
  obtain ⟨w, s1, rfl, hw, hR⟩ := hT.cons
  have hw : w = .int x := hw
  subst hw
  obtain ⟨h0, lv, h1, h2⟩ := id I.2.2.2.2.2.2.1
  exact lv_istore I.1.2.1 I.1.2.2.1 hd h1 (h0 ▸ hi2) rfl (fun lsm' hl' => kk p l e R s m args below meth cd H locs cells slots mc ms D ct A as0 ws lsm' _ (I.loc (tv_L.set h0 h2 (v := .int x) rfl rfl hl')) hR)
theorem ev_astore_n {j : Fin 4} {i : Nat} {x : Nat} (hd : decode k.2.1 pc = .ok (.astore_n j, 1)) (hi : (j : Nat) = i) (hi2 : i < ls.length) (kk : tv_Ev G k (pc + 1) (ls.set i (some (.ref x))) st h c z Q) : tv_Ev G k pc ls (.ref x :: st) h c z Q := by
  intro p l e R s m args below meth cd H locs cells slots mc ms D ct A as0 ws lsm stm I hT
  obtain ⟨w, s1, rfl, ⟨q, hq, rfl⟩, hR⟩ := hT.cons
  obtain ⟨h0, lv, h1, h2⟩ := id I.2.2.2.2.2.2.1
  exact lv_astore_n I.1.2.1 I.1.2.2.1 hd hi h1 (h0 ▸ hi2) rfl (fun lsm' hl' => kk p l e R s m args below meth cd H locs cells slots mc ms D ct A as0 ws lsm' _ (I.loc (tv_L.set h0 h2 (v := .ref x) ⟨q, hq, rfl⟩ rfl hl')) hR)
theorem ev_astore_nX {j : Fin 4} {i : Nat} {x : Nat} (hd : decode k.2.1 pc = .ok (.astore_n j, 1)) (hi : (j : Nat) = i) (hi2 : i < ls.length) (kk : tv_Ev G k (pc + 1) (ls.set i (some (.retAddr x))) st h c z Q) : tv_Ev G k pc ls (.retAddr x :: st) h c z Q := by
  intro p l e R s m args below meth cd H locs cells slots mc ms D ct A as0 ws lsm stm I hT
  obtain ⟨w, s1, rfl, hw, hR⟩ := hT.cons
  have hw : w = .ref x := hw
  subst hw
  obtain ⟨h0, lv, h1, h2⟩ := id I.2.2.2.2.2.2.1
  exact lv_astore_n I.1.2.1 I.1.2.2.1 hd hi h1 (h0 ▸ hi2) rfl (fun lsm' hl' => kk p l e R s m args below meth cd H locs cells slots mc ms D ct A as0 ws lsm' _ (I.loc (tv_L.set h0 h2 (v := .retAddr x) rfl rfl hl')) hR)
theorem ev_astore {i : Nat} {x : Nat} (hd : decode k.2.1 pc = .ok (.astore i, 2)) (hi2 : i < ls.length) (kk : tv_Ev G k (pc + 2) (ls.set i (some (.ref x))) st h c z Q) : tv_Ev G k pc ls (.ref x :: st) h c z Q := by
  intro p l e R s m args below meth cd H locs cells slots mc ms D ct A as0 ws lsm stm I hT
  obtain ⟨w, s1, rfl, ⟨q, hq, rfl⟩, hR⟩ := hT.cons
  obtain ⟨h0, lv, h1, h2⟩ := id I.2.2.2.2.2.2.1
  exact lv_astore I.1.2.1 I.1.2.2.1 hd h1 (h0 ▸ hi2) rfl (fun lsm' hl' => kk p l e R s m args below meth cd H locs cells slots mc ms D ct A as0 ws lsm' _ (I.loc (tv_L.set h0 h2 (v := .ref x) ⟨q, hq, rfl⟩ rfl hl')) hR)
theorem ev_astoreX {i : Nat} {x : Nat} (hd : decode k.2.1 pc = .ok (.astore i, 2)) (hi2 : i < ls.length) (kk : tv_Ev G k (pc + 2) (ls.set i (some (.retAddr x))) st h c z Q) : tv_Ev G k pc ls (.retAddr x :: st) h c z Q := by
  intro p l e R s m args below meth cd H locs cells slots mc ms D ct A as0 ws lsm stm I hT
  obtain ⟨w, s1, rfl, hw, hR⟩ := hT.cons
  have hw : w = .ref x := hw
  subst hw
  obtain ⟨h0, lv, h1, h2⟩ := id I.2.2.2.2.2.2.1
  exact lv_astore I.1.2.1 I.1.2.2.1 hd h1 (h0 ▸ hi2) rfl (fun lsm' hl' => kk p l e R s m args below meth cd H locs cells slots mc ms D ct A as0 ws lsm' _ (I.loc (tv_L.set h0 h2 (v := .retAddr x) rfl rfl hl')) hR)
theorem ev_iinc {i : Nat} {n : Int} {x : Int32} (v : Int32) (hd : decode k.2.1 pc = .ok (.iinc i n, 3)) (hl : ls[i]? = some (some (.int x))) (hv : x + Int32.ofInt n = v) (kk : tv_Ev G k (pc + 3) (ls.set i (some (.int v))) st h c z Q) : tv_Ev G k pc ls st h c z Q := by
  intro p l e R s m args below meth cd H locs cells slots mc ms D ct A as0 ws lsm stm I hT
  obtain ⟨h0, lv, h1, h2⟩ := id I.2.2.2.2.2.2.1
  obtain ⟨w, hw, hc, hm⟩ := h2 i _ hl
  have hw : w = .int x := hw
  subst hw
  obtain ⟨j, hj⟩ := List.getElem?_of_mem hm
  exact lv_iinc I.1.2.1 I.1.2.2.1 hd h1 hj hv (h0 ▸ (List.getElem?_eq_some_iff.mp hl).1) rfl (fun lsm' hl' => kk p l e R s m args below meth cd H locs cells slots mc ms D ct A as0 ws lsm' _ (I.loc (tv_L.set h0 h2 (v := .int v) rfl rfl hl')) hT)
theorem ev_iadd {x y : Int32} (hd : decode k.2.1 pc = .ok (.iadd, 1)) (kk : tv_Ev G k (pc + 1) ls (.int (x + y) :: st) h c z Q) : tv_Ev G k pc ls (.int y :: .int x :: st) h c z Q := by
  intro p l e R s m args below meth cd H locs cells slots mc ms D ct A as0 ws lsm stm I hT
  obtain ⟨w1, s1, rfl, e1, hR⟩ := hT.cons
  obtain ⟨w2, s2, rfl, e2, hR2⟩ := hR.cons
  have e1 : w1 = .int y := e1
  have e2 : w2 = .int x := e2
  subst e1; subst e2
  exact lv_iadd I.1.2.1 I.1.2.2.1 hd (kk p l e R s m args below meth cd H locs cells slots mc ms D ct A as0 ws lsm _ I ⟨rfl, hR2⟩)
theorem ev_isub {x y : Int32} (hd : decode k.2.1 pc = .ok (.isub, 1)) (kk : tv_Ev G k (pc + 1) ls (.int (x - y) :: st) h c z Q) : tv_Ev G k pc ls (.int y :: .int x :: st) h c z Q := by
  intro p l e R s m args below meth cd H locs cells slots mc ms D ct A as0 ws lsm stm I hT
  obtain ⟨w1, s1, rfl, e1, hR⟩ := hT.cons
  obtain ⟨w2, s2, rfl, e2, hR2⟩ := hR.cons
  have e1 : w1 = .int y := e1
  have e2 : w2 = .int x := e2
  subst e1; subst e2
  exact lv_isub I.1.2.1 I.1.2.2.1 hd (kk p l e R s m args below meth cd H locs cells slots mc ms D ct A as0 ws lsm _ I ⟨rfl, hR2⟩)
theorem ev_imul {x y : Int32} (hd : decode k.2.1 pc = .ok (.imul, 1)) (kk : tv_Ev G k (pc + 1) ls (.int (x * y) :: st) h c z Q) : tv_Ev G k pc ls (.int y :: .int x :: st) h c z Q := by
  intro p l e R s m args below meth cd H locs cells slots mc ms D ct A as0 ws lsm stm I hT
  obtain ⟨w1, s1, rfl, e1, hR⟩ := hT.cons
  obtain ⟨w2, s2, rfl, e2, hR2⟩ := hR.cons
  have e1 : w1 = .int y := e1
  have e2 : w2 = .int x := e2
  subst e1; subst e2
  exact lv_imul I.1.2.1 I.1.2.2.1 hd (kk p l e R s m args below meth cd H locs cells slots mc ms D ct A as0 ws lsm _ I ⟨rfl, hR2⟩)
theorem ev_iand {x y : Int32} (hd : decode k.2.1 pc = .ok (.iand, 1)) (kk : tv_Ev G k (pc + 1) ls (.int (x &&& y) :: st) h c z Q) : tv_Ev G k pc ls (.int y :: .int x :: st) h c z Q := by
  intro p l e R s m args below meth cd H locs cells slots mc ms D ct A as0 ws lsm stm I hT
  obtain ⟨w1, s1, rfl, e1, hR⟩ := hT.cons
  obtain ⟨w2, s2, rfl, e2, hR2⟩ := hR.cons
  have e1 : w1 = .int y := e1
  have e2 : w2 = .int x := e2
  subst e1; subst e2
  exact lv_iand I.1.2.1 I.1.2.2.1 hd (kk p l e R s m args below meth cd H locs cells slots mc ms D ct A as0 ws lsm _ I ⟨rfl, hR2⟩)
theorem ev_ior {x y : Int32} (hd : decode k.2.1 pc = .ok (.ior, 1)) (kk : tv_Ev G k (pc + 1) ls (.int (x ||| y) :: st) h c z Q) : tv_Ev G k pc ls (.int y :: .int x :: st) h c z Q := by
  intro p l e R s m args below meth cd H locs cells slots mc ms D ct A as0 ws lsm stm I hT
  obtain ⟨w1, s1, rfl, e1, hR⟩ := hT.cons
  obtain ⟨w2, s2, rfl, e2, hR2⟩ := hR.cons
  have e1 : w1 = .int y := e1
  have e2 : w2 = .int x := e2
  subst e1; subst e2
  exact lv_ior I.1.2.1 I.1.2.2.1 hd (kk p l e R s m args below meth cd H locs cells slots mc ms D ct A as0 ws lsm _ I ⟨rfl, hR2⟩)
theorem ev_ishl {x y : Int32} (hd : decode k.2.1 pc = .ok (.ishl, 1)) (kk : tv_Ev G k (pc + 1) ls (.int (x <<< (y &&& 31)) :: st) h c z Q) : tv_Ev G k pc ls (.int y :: .int x :: st) h c z Q := by
  intro p l e R s m args below meth cd H locs cells slots mc ms D ct A as0 ws lsm stm I hT
  obtain ⟨w1, s1, rfl, e1, hR⟩ := hT.cons
  obtain ⟨w2, s2, rfl, e2, hR2⟩ := hR.cons
  have e1 : w1 = .int y := e1
  have e2 : w2 = .int x := e2
  subst e1; subst e2
  exact lv_ishl I.1.2.1 I.1.2.2.1 hd (kk p l e R s m args below meth cd H locs cells slots mc ms D ct A as0 ws lsm _ I ⟨rfl, hR2⟩)
theorem ev_ishr {x y : Int32} (hd : decode k.2.1 pc = .ok (.ishr, 1)) (kk : tv_Ev G k (pc + 1) ls (.int (x >>> (y &&& 31)) :: st) h c z Q) : tv_Ev G k pc ls (.int y :: .int x :: st) h c z Q := by
  intro p l e R s m args below meth cd H locs cells slots mc ms D ct A as0 ws lsm stm I hT
  obtain ⟨w1, s1, rfl, e1, hR⟩ := hT.cons
  obtain ⟨w2, s2, rfl, e2, hR2⟩ := hR.cons
  have e1 : w1 = .int y := e1
  have e2 : w2 = .int x := e2
  subst e1; subst e2
  exact lv_ishr I.1.2.1 I.1.2.2.1 hd (kk p l e R s m args below meth cd H locs cells slots mc ms D ct A as0 ws lsm _ I ⟨rfl, hR2⟩)
theorem ev_iushr {x y : Int32} (hd : decode k.2.1 pc = .ok (.iushr, 1)) (kk : tv_Ev G k (pc + 1) ls (.int ((x.toUInt32 >>> (y.toUInt32 &&& Int32.toUInt32 31)).toInt32) :: st) h c z Q) : tv_Ev G k pc ls (.int y :: .int x :: st) h c z Q := by
  intro p l e R s m args below meth cd H locs cells slots mc ms D ct A as0 ws lsm stm I hT
  obtain ⟨w1, s1, rfl, e1, hR⟩ := hT.cons
  obtain ⟨w2, s2, rfl, e2, hR2⟩ := hR.cons
  have e1 : w1 = .int y := e1
  have e2 : w2 = .int x := e2
  subst e1; subst e2
  exact lv_iushr I.1.2.1 I.1.2.2.1 hd rfl (kk p l e R s m args below meth cd H locs cells slots mc ms D ct A as0 ws lsm _ I ⟨rfl, hR2⟩)
theorem ev_i2b {x : Int32} (hd : decode k.2.1 pc = .ok (.i2b, 1)) (kk : tv_Ev G k (pc + 1) ls (.int x.toInt8.toInt32 :: st) h c z Q) : tv_Ev G k pc ls (.int x :: st) h c z Q := by
  intro p l e R s m args below meth cd H locs cells slots mc ms D ct A as0 ws lsm stm I hT
  obtain ⟨w1, s1, rfl, e1, hR⟩ := hT.cons
  have e1 : w1 = .int x := e1
  subst e1
  exact lv_i2b I.1.2.1 I.1.2.2.1 hd rfl (kk p l e R s m args below meth cd H locs cells slots mc ms D ct A as0 ws lsm _ I ⟨rfl, hR⟩)
theorem ev_i2l {x : Int32} (hd : decode k.2.1 pc = .ok (.i2l, 1)) (kk : tv_Ev G k (pc + 1) ls (.long x.toInt64 :: st) h c z Q) : tv_Ev G k pc ls (.int x :: st) h c z Q := by
  intro p l e R s m args below meth cd H locs cells slots mc ms D ct A as0 ws lsm stm I hT
  obtain ⟨w1, s1, rfl, e1, hR⟩ := hT.cons
  have e1 : w1 = .int x := e1
  subst e1
  exact lv_i2l I.1.2.1 I.1.2.2.1 hd rfl (kk p l e R s m args below meth cd H locs cells slots mc ms D ct A as0 ws lsm _ I ⟨rfl, hR⟩)
theorem ev_lcmp {x y : Int64} (hd : decode k.2.1 pc = .ok (.lcmp, 1)) (kk : tv_Ev G k (pc + 1) ls (.int (lg_cmp x y) :: st) h c z Q) : tv_Ev G k pc ls (.long y :: .long x :: st) h c z Q := by
  intro p l e R s m args below meth cd H locs cells slots mc ms D ct A as0 ws lsm stm I hT
  obtain ⟨w1, s1, rfl, e1, hR⟩ := hT.cons
  obtain ⟨w2, s2, rfl, e2, hR2⟩ := hR.cons
  have e1 : w1 = .long y := e1
  have e2 : w2 = .long x := e2
  subst e1; subst e2
  exact W.lcmp I.1.2.1 I.1.2.2.1 hd (kk p l e R s m args below meth cd H locs cells slots mc ms D ct A as0 ws lsm _ I ⟨rfl, hR2⟩)
theorem ev_dup {v : Value} (hd : decode k.2.1 pc = .ok (.dup, 1)) (hv : v.category = 1) (kk : tv_Ev G k (pc + 1) ls (v :: v :: st) h c z Q) : tv_Ev G k pc ls (v :: st) h c z Q := by
  intro p l e R s m args below meth cd H locs cells slots mc ms D ct A as0 ws lsm stm I hT
  obtain ⟨w1, s1, rfl, e1, hR⟩ := hT.cons
  exact lv_dup I.1.2.1 I.1.2.2.1 hd (e1.cat.trans hv) (kk p l e R s m args below meth cd H locs cells slots mc ms D ct A as0 ws lsm _ I ⟨e1, e1, hR⟩)
theorem ev_pop {v : Value} (hd : decode k.2.1 pc = .ok (.pop, 1)) (hv : v.category = 1) (kk : tv_Ev G k (pc + 1) ls st h c z Q) : tv_Ev G k pc ls (v :: st) h c z Q := by
  intro p l e R s m args below meth cd H locs cells slots mc ms D ct A as0 ws lsm stm I hT
  obtain ⟨w1, s1, rfl, e1, hR⟩ := hT.cons
  exact lv_pop I.1.2.1 I.1.2.2.1 hd (e1.cat.trans hv) (kk p l e R s m args below meth cd H locs cells slots mc ms D ct A as0 ws lsm _ I hR)
theorem ev_dup2 {v u : Value} (hd : decode k.2.1 pc = .ok (.dup2, 1)) (hv : v.category = 1) (hu : u.category = 1) (kk : tv_Ev G k (pc + 1) ls (v :: u :: v :: u :: st) h c z Q) : tv_Ev G k pc ls (v :: u :: st) h c z Q := by
  intro p l e R s m args below meth cd H locs cells slots mc ms D ct A as0 ws lsm stm I hT
  obtain ⟨w1, s1, rfl, e1, hR⟩ := hT.cons
  obtain ⟨w2, s2, rfl, e2, hR2⟩ := hR.cons
  exact lv_dup2_11 I.1.2.1 I.1.2.2.1 hd (e1.cat.trans hv) (e2.cat.trans hu) (kk p l e R s m args below meth cd H locs cells slots mc ms D ct A as0 ws lsm _ I ⟨e1, e2, e1, e2, hR2⟩)
theorem ev_icmp_eq {x y : Int32} {off : Int} (tgt : Nat) (hd : decode k.2.1 pc = .ok (.if_icmp .eq off, 3)) (ht : (pc : Int) + off = (tgt : Int)) (kt : x = y → tv_Ev G k tgt ls st h c z Q) (kf : ¬ (x = y) → tv_Ev G k (pc + 3) ls st h c z Q) : tv_Ev G k pc ls (.int y :: .int x :: st) h c z Q := by
  intro p l e R s m args below meth cd H locs cells slots mc ms D ct A as0 ws lsm stm I hT
  obtain ⟨w1, s1, rfl, e1, hR⟩ := hT.cons
  obtain ⟨w2, s2, rfl, e2, hR2⟩ := hR.cons
  have e1 : w1 = .int y := e1
  have e2 : w2 = .int x := e2
  subst e1; subst e2
  exact lv_icmp_eq I.1.2.1 I.1.2.2.1 hd ht (fun q => kt q p l e R s m args below meth cd H locs cells slots mc ms D ct A as0 ws lsm _ I hR2) (fun q => kf q p l e R s m args below meth cd H locs cells slots mc ms D ct A as0 ws lsm _ I hR2)
theorem ev_if_eq {x : Int32} {off : Int} (tgt : Nat) (hd : decode k.2.1 pc = .ok (.ifCond .eq off, 3)) (ht : (pc : Int) + off = (tgt : Int)) (kt : x = 0 → tv_Ev G k tgt ls st h c z Q) (kf : ¬ (x = 0) → tv_Ev G k (pc + 3) ls st h c z Q) : tv_Ev G k pc ls (.int x :: st) h c z Q := by
  intro p l e R s m args below meth cd H locs cells slots mc ms D ct A as0 ws lsm stm I hT
  obtain ⟨w1, s1, rfl, e1, hR⟩ := hT.cons
  have e1 : w1 = .int x := e1
  subst e1
  exact lv_if_eq I.1.2.1 I.1.2.2.1 hd ht (fun q => kt q p l e R s m args below meth cd H locs cells slots mc ms D ct A as0 ws lsm _ I hR) (fun q => kf q p l e R s m args below meth cd H locs cells slots mc ms D ct A as0 ws lsm _ I hR)
theorem ev_icmp_ne {x y : Int32} {off : Int} (tgt : Nat) (hd : decode k.2.1 pc = .ok (.if_icmp .ne off, 3)) (ht : (pc : Int) + off = (tgt : Int)) (kt : ¬ x = y → tv_Ev G k tgt ls st h c z Q) (kf : x = y → tv_Ev G k (pc + 3) ls st h c z Q) : tv_Ev G k pc ls (.int y :: .int x :: st) h c z Q := by
  intro p l e R s m args below meth cd H locs cells slots mc ms D ct A as0 ws lsm stm I hT
  obtain ⟨w1, s1, rfl, e1, hR⟩ := hT.cons
  obtain ⟨w2, s2, rfl, e2, hR2⟩ := hR.cons
  have e1 : w1 = .int y := e1
  have e2 : w2 = .int x := e2
  subst e1; subst e2
  exact lv_icmp_ne I.1.2.1 I.1.2.2.1 hd ht (fun q => kt q p l e R s m args below meth cd H locs cells slots mc ms D ct A as0 ws lsm _ I hR2) (fun q => kf q p l e R s m args below meth cd H locs cells slots mc ms D ct A as0 ws lsm _ I hR2)
theorem ev_if_ne {x : Int32} {off : Int} (tgt : Nat) (hd : decode k.2.1 pc = .ok (.ifCond .ne off, 3)) (ht : (pc : Int) + off = (tgt : Int)) (kt : ¬ x = 0 → tv_Ev G k tgt ls st h c z Q) (kf : x = 0 → tv_Ev G k (pc + 3) ls st h c z Q) : tv_Ev G k pc ls (.int x :: st) h c z Q := by
  intro p l e R s m args below meth cd H locs cells slots mc ms D ct A as0 ws lsm stm I hT
  obtain ⟨w1, s1, rfl, e1, hR⟩ := hT.cons
  have e1 : w1 = .int x := e1
  subst e1
  exact lv_if_ne I.1.2.1 I.1.2.2.1 hd ht (fun q => kt q p l e R s m args below meth cd H locs cells slots mc ms D ct A as0 ws lsm _ I hR) (fun q => kf q p l e R s m args below meth cd H locs cells slots mc ms D ct A as0 ws lsm _ I hR)
theorem ev_icmp_lt {x y : Int32} {off : Int} (tgt : Nat) (hd : decode k.2.1 pc = .ok (.if_icmp .lt off, 3)) (ht : (pc : Int) + off = (tgt : Int)) (kt : x < y → tv_Ev G k tgt ls st h c z Q) (kf : ¬ (x < y) → tv_Ev G k (pc + 3) ls st h c z Q) : tv_Ev G k pc ls (.int y :: .int x :: st) h c z Q := by
  intro p l e R s m args below meth cd H locs cells slots mc ms D ct A as0 ws lsm stm I hT
  obtain ⟨w1, s1, rfl, e1, hR⟩ := hT.cons
  obtain ⟨w2, s2, rfl, e2, hR2⟩ := hR.cons
  have e1 : w1 = .int y := e1
  have e2 : w2 = .int x := e2
  subst e1; subst e2
  exact lv_icmp_lt I.1.2.1 I.1.2.2.1 hd ht (fun q => kt q p l e R s m args below meth cd H locs cells slots mc ms D ct A as0 ws lsm _ I hR2) (fun q => kf q p l e R s m args below meth cd H locs cells slots mc ms D ct A as0 ws lsm _ I hR2)
theorem ev_if_lt {x : Int32} {off : Int} (tgt : Nat) (hd : decode k.2.1 pc = .ok (.ifCond .lt off, 3)) (ht : (pc : Int) + off = (tgt : Int)) (kt : x < 0 → tv_Ev G k tgt ls st h c z Q) (kf : ¬ (x < 0) → tv_Ev G k (pc + 3) ls st h c z Q) : tv_Ev G k pc ls (.int x :: st) h c z Q := by
  intro p l e R s m args below meth cd H locs cells slots mc ms D ct A as0 ws lsm stm I hT
  obtain ⟨w1, s1, rfl, e1, hR⟩ := hT.cons
  have e1 : w1 = .int x := e1
  subst e1
  exact lv_if_lt I.1.2.1 I.1.2.2.1 hd ht (fun q => kt q p l e R s m args below meth cd H locs cells slots mc ms D ct A as0 ws lsm _ I hR) (fun q => kf q p l e R s m args below meth cd H locs cells slots mc ms D ct A as0 ws lsm _ I hR)
theorem ev_icmp_ge {x y : Int32} {off : Int} (tgt : Nat) (hd : decode k.2.1 pc = .ok (.if_icmp .ge off, 3)) (ht : (pc : Int) + off = (tgt : Int)) (kt : y ≤ x → tv_Ev G k tgt ls st h c z Q) (kf : ¬ (y ≤ x) → tv_Ev G k (pc + 3) ls st h c z Q) : tv_Ev G k pc ls (.int y :: .int x :: st) h c z Q := by
  intro p l e R s m args below meth cd H locs cells slots mc ms D ct A as0 ws lsm stm I hT
  obtain ⟨w1, s1, rfl, e1, hR⟩ := hT.cons
  obtain ⟨w2, s2, rfl, e2, hR2⟩ := hR.cons
  have e1 : w1 = .int y := e1
  have e2 : w2 = .int x := e2
  subst e1; subst e2
  exact lv_icmp_ge I.1.2.1 I.1.2.2.1 hd ht (fun q => kt q p l e R s m args below meth cd H locs cells slots mc ms D ct A as0 ws lsm _ I hR2) (fun q => kf q p l e R s m args below meth cd H locs cells slots mc ms D ct A as0 ws lsm _ I hR2)
theorem ev_if_ge {x : Int32} {off : Int} (tgt : Nat) (hd : decode k.2.1 pc = .ok (.ifCond .ge off, 3)) (ht : (pc : Int) + off = (tgt : Int)) (kt : 0 ≤ x → tv_Ev G k tgt ls st h c z Q) (kf : ¬ (0 ≤ x) → tv_Ev G k (pc + 3) ls st h c z Q) : tv_Ev G k pc ls (.int x :: st) h c z Q := by
  intro p l e R s m args below meth cd H locs cells slots mc ms D ct A as0 ws lsm stm I hT
  obtain ⟨w1, s1, rfl, e1, hR⟩ := hT.cons
  have e1 : w1 = .int x := e1
  subst e1
  exact lv_if_ge I.1.2.1 I.1.2.2.1 hd ht (fun q => kt q p l e R s m args below meth cd H locs cells slots mc ms D ct A as0 ws lsm _ I hR) (fun q => kf q p l e R s m args below meth cd H locs cells slots mc ms D ct A as0 ws lsm _ I hR)
theorem ev_icmp_gt {x y : Int32} {off : Int} (tgt : Nat) (hd : decode k.2.1 pc = .ok (.if_icmp .gt off, 3)) (ht : (pc : Int) + off = (tgt : Int)) (kt : y < x → tv_Ev G k tgt ls st h c z Q) (kf : ¬ (y < x) → tv_Ev G k (pc + 3) ls st h c z Q) : tv_Ev G k pc ls (.int y :: .int x :: st) h c z Q := by
  intro p l e R s m args below meth cd H locs cells slots mc ms D ct A as0 ws lsm stm I hT
  obtain ⟨w1, s1, rfl, e1, hR⟩ := hT.cons
  obtain ⟨w2, s2, rfl, e2, hR2⟩ := hR.cons
  have e1 : w1 = .int y := e1
  have e2 : w2 = .int x := e2
  subst e1; subst e2
  exact lv_icmp_gt I.1.2.1 I.1.2.2.1 hd ht (fun q => kt q p l e R s m args below meth cd H locs cells slots mc ms D ct A as0 ws lsm _ I hR2) (fun q => kf q p l e R s m args below meth cd H locs cells slots mc ms D ct A as0 ws lsm _ I hR2)
theorem ev_if_gt {x : Int32} {off : Int} (tgt : Nat) (hd : decode k.2.1 pc = .ok (.ifCond .gt off, 3)) (ht : (pc : Int) + off = (tgt : Int)) (kt : 0 < x → tv_Ev G k tgt ls st h c z Q) (kf : ¬ (0 < x) → tv_Ev G k (pc + 3) ls st h c z Q) : tv_Ev G k pc ls (.int x :: st) h c z Q := by
  intro p l e R s m args below meth cd H locs cells slots mc ms D ct A as0 ws lsm stm I hT
  obtain ⟨w1, s1, rfl, e1, hR⟩ := hT.cons
  have e1 : w1 = .int x := e1
  subst e1
  exact lv_if_gt I.1.2.1 I.1.2.2.1 hd ht (fun q => kt q p l e R s m args below meth cd H locs cells slots mc ms D ct A as0 ws lsm _ I hR) (fun q => kf q p l e R s m args below meth cd H locs cells slots mc ms D ct A as0 ws lsm _ I hR)
theorem ev_icmp_le {x y : Int32} {off : Int} (tgt : Nat) (hd : decode k.2.1 pc = .ok (.if_icmp .le off, 3)) (ht : (pc : Int) + off = (tgt : Int)) (kt : x ≤ y → tv_Ev G k tgt ls st h c z Q) (kf : ¬ (x ≤ y) → tv_Ev G k (pc + 3) ls st h c z Q) : tv_Ev G k pc ls (.int y :: .int x :: st) h c z Q := by
  intro p l e R s m args below meth cd H locs cells slots mc ms D ct A as0 ws lsm stm I hT
  obtain ⟨w1, s1, rfl, e1, hR⟩ := hT.cons
  obtain ⟨w2, s2, rfl, e2, hR2⟩ := hR.cons
  have e1 : w1 = .int y := e1
  have e2 : w2 = .int x := e2
  subst e1; subst e2
  exact lv_icmp_le I.1.2.1 I.1.2.2.1 hd ht (fun q => kt q p l e R s m args below meth cd H locs cells slots mc ms D ct A as0 ws lsm _ I hR2) (fun q => kf q p l e R s m args below meth cd H locs cells slots mc ms D ct A as0 ws lsm _ I hR2)
theorem ev_if_le {x : Int32} {off : Int} (tgt : Nat) (hd : decode k.2.1 pc = .ok (.ifCond .le off, 3)) (ht : (pc : Int) + off = (tgt : Int)) (kt : x ≤ 0 → tv_Ev G k tgt ls st h c z Q) (kf : ¬ (x ≤ 0) → tv_Ev G k (pc + 3) ls st h c z Q) : tv_Ev G k pc ls (.int x :: st) h c z Q := by
  intro p l e R s m args below meth cd H locs cells slots mc ms D ct A as0 ws lsm stm I hT
  obtain ⟨w1, s1, rfl, e1, hR⟩ := hT.cons
  have e1 : w1 = .int x := e1
  subst e1
  exact lv_if_le I.1.2.1 I.1.2.2.1 hd ht (fun q => kt q p l e R s m args below meth cd H locs cells slots mc ms D ct A as0 ws lsm _ I hR) (fun q => kf q p l e R s m args below meth cd H locs cells slots mc ms D ct A as0 ws lsm _ I hR)
theorem ev_goto {off : Int} (tgt : Nat) (hd : decode k.2.1 pc = .ok (.goto off, 3)) (ht : (pc : Int) + off = (tgt : Int)) (kk : tv_Ev G k tgt ls st h c z Q) : tv_Ev G k pc ls st h c z Q := by
  intro p l e R s m args below meth cd H locs cells slots mc ms D ct A as0 ws lsm stm I hT
  exact lv_goto I.1.2.1 I.1.2.2.1 hd ht (kk p l e R s m args below meth cd H locs cells slots mc ms D ct A as0 ws lsm _ I hT)
theorem ev_tableOut {dflt lo hi : Int} {offs : Array Int} {len : Nat} {x : Int32} (tgt : Nat) (hd : decode k.2.1 pc = .ok (.tableswitch dflt lo hi offs, len)) (hx : x.toInt < lo ∨ hi < x.toInt) (ht : (pc : Int) + dflt = (tgt : Int)) (kk : tv_Ev G k tgt ls st h c z Q) : tv_Ev G k pc ls (.int x :: st) h c z Q := by
  intro p l e R s m args below meth cd H locs cells slots mc ms D ct A as0 ws lsm stm I hT
  obtain ⟨w1, s1, rfl, e1, hR⟩ := hT.cons
  have e1 : w1 = .int x := e1
  subst e1
  exact lv_tableOut I.1.2.1 I.1.2.2.1 hd hx ht (kk p l e R s m args below meth cd H locs cells slots mc ms D ct A as0 ws lsm _ I hR)
theorem ev_tableIn {dflt lo hi : Int} {offs : Array Int} {len : Nat} {x : Int32} {off : Int} (tgt : Nat) (hd : decode k.2.1 pc = .ok (.tableswitch dflt lo hi offs, len)) (h1 : ¬ x.toInt < lo) (h2 : ¬ hi < x.toInt) (ho : offs[(x.toInt - lo).toNat]? = some off) (ht : (pc : Int) + off = (tgt : Int)) (kk : tv_Ev G k tgt ls st h c z Q) : tv_Ev G k pc ls (.int x :: st) h c z Q := by
  intro p l e R s m args below meth cd H locs cells slots mc ms D ct A as0 ws lsm stm I hT
  obtain ⟨w1, s1, rfl, e1, hR⟩ := hT.cons
  have e1 : w1 = .int x := e1
  subst e1
  exact lv_tableIn I.1.2.1 I.1.2.2.1 hd h1 h2 ho ht (kk p l e R s m args below meth cd H locs cells slots mc ms D ct A as0 ws lsm _ I hR)
end
end
section
/-! THE RULES that touch the heap -/
theorem tc_all : ∀ (ci : Nat) (C : String) (T : u_T) (N : Nat), tc_cl[ci]? = some (C, T, N) → ci < 6 ∧ (∀ w ∈ u_ws C T N, w ∈ tc_TB) ∧ ∃ ty : Nat → FieldType, (∀ k, k < N → parseFieldDescriptor (T k).2.2.1 = some (ty k)) ∧ ∀ a, a < N → ∀ b, b < N → a ≠ b → (T a).2.1 ≠ (T b).2.1 := by
  intro ci C T N h
  match ci, h with
  | 0, h => cases h; exact ⟨by decide, by decide +kernel, tc_Y0, tc_ok0, tc_nm0⟩
  | 1, h => cases h; exact ⟨by decide, by decide +kernel, tc_Y1, tc_ok1, tc_nm1⟩
  | 2, h => cases h; exact ⟨by decide, by decide +kernel, tc_Y2, tc_ok2, tc_nm2⟩
  | 3, h => cases h; exact ⟨by decide, by decide +kernel, tc_Y3, tc_ok3, tc_nm3⟩
  | 4, h => cases h; exact ⟨by decide, by decide +kernel, tc_Y4, tc_ok4, tc_nm4⟩
  | 5, h => cases h; exact ⟨by decide, by decide +kernel, tc_Y5, tc_ok5, tc_nm5⟩
  | k + 6, h => simp [tc_cl] at h
theorem tv_e.obj {as : List Nat} {ct : Nat → ClassId} {ci : Nat} {fs : List Value} {x : va_E} (h : tv_e as ct (ci, fs) x) (hc : ci < 6) : ∃ gs, x = .inr (ci, gs) ∧ tv_vs as fs gs := by
  rcases x with ⟨cA, n, f | f | f | f | g⟩ | ⟨o1, o2⟩
  · obtain ⟨t, h1, -⟩ := h
    exact absurd h1 (by simp only; omega)
  · exact absurd h.1 (by simp only; omega)
  · exact h.elim
  · exact h.elim
  · exact absurd h.1 (by simp only; omega)
  · obtain ⟨h1, h2, h3⟩ := h
    have h1 : ci = o1 := h1
    subst h1
    exact ⟨o2, rfl, h3⟩
theorem tv_e.ints {as : List Nat} {ct : Nat → ClassId} {t : Nat} {fs : List Value} {x : va_E} (h : tv_e as ct (100 + t, fs) x) (ht : t < 2) : ∃ f, x = .inl (ct t, fs.length, .inl f) ∧ ∀ i, i < fs.length → fs[i]? = some (.int (f i)) := by
  rcases x with ⟨cA, n, f | f | f | f | g⟩ | ⟨o1, o2⟩
  · obtain ⟨t', h1, h2, h3, h4, h5⟩ := h
    have e : t = t' := by simp only at h1; omega
    subst e
    have h4 : n = fs.length := h4
    subst h4
    subst h3
    exact ⟨f, rfl, h5⟩
  · exact absurd h.1 (by simp only; omega)
  · exact h.elim
  · exact h.elim
  · exact absurd h.1 (by simp only; omega)
  · obtain ⟨h1, h2, h3⟩ := h
    exact absurd h1 (by simp only; simp only at h2; omega)
theorem tv_e.longs {as : List Nat} {ct : Nat → ClassId} {fs : List Value} {x : va_E} (h : tv_e as ct (102, fs) x) : ∃ f, x = .inl (ct 2, fs.length, .inr (.inl f)) ∧ ∀ i, i < fs.length → fs[i]? = some (.long (f i)) := by
  rcases x with ⟨cA, n, f | f | f | f | g⟩ | ⟨o1, o2⟩
  · obtain ⟨t', h1, h2, -⟩ := h
    exact absurd h1 (by simp only; omega)
  · obtain ⟨-, h3, h4, h5⟩ := h
    have h4 : n = fs.length := h4
    subst h4
    subst h3
    exact ⟨f, rfl, h5⟩
  · exact h.elim
  · exact h.elim
  · exact absurd h.1 (by simp)
  · obtain ⟨h1, h2, h3⟩ := h
    exact absurd h1 (by simp only; simp only at h2; omega)
theorem tv_e.refs {as : List Nat} {ct : Nat → ClassId} {fs : List Value} {x : va_E} (h : tv_e as ct (103, fs) x) : ∃ g, x = .inl (ct 3, fs.length, .inr (.inr (.inr (.inr g)))) ∧ ∀ i, i < fs.length → ∃ v, fs[i]? = some v ∧ tv_v as v (va_rf (g i)) := by
  rcases x with ⟨cA, n, f | f | f | f | g⟩ | ⟨o1, o2⟩
  · obtain ⟨t', h1, h2, -⟩ := h
    exact absurd h1 (by simp only; omega)
  · exact absurd h.1 (by simp)
  · exact h.elim
  · exact h.elim
  · obtain ⟨-, h3, h4, h5⟩ := h
    have h4 : n = fs.length := h4
    subst h4
    subst h3
    exact ⟨g, rfl, h5⟩
  · obtain ⟨h1, h2, h3⟩ := h
    exact absurd h1 (by simp only; simp only at h2; omega)
/-- the cell of a virtual object -/
theorem tv_W.at {D : va_G} {ct : Nat → ClassId} {A : Nat → Prop} {h : tv_H} {ws : va_W} {H : Heap} (w : tv_W D ct A h ws H) {a q : Nat} {e : tv_E} (hh : h[a]? = some e) (hq : (ws.map Prod.fst)[a]? = some q) : ∃ x, ws[a]? = some (q, x) ∧ tv_e (ws.map Prod.fst) ct e x := by
  obtain ⟨q', x, h1, h2⟩ := w.2.2.get hh
  rw [List.getElem?_map, h1] at hq
  cases hq
  exact ⟨x, h1, h2⟩
/-- a field's link: own reads field j of the kind ci by its row idx -/
def tv_fl (own : String) (idx ci j : Nat) : Prop := ∃ C T N, tc_cl[ci]? = some (C, T, N) ∧ j < N ∧ ((Cond.fieldLink own idx (T j).1 (T j).2.1 (T j).2.2.1) ∈ tc_TB ∨ ∃ host, (Cond.fieldLinkNest own idx (T j).1 (T j).2.1 (T j).2.2.1 host) ∈ tc_TB)
/-- .. and may write it: of a kind whose own method (y, its name) it is, or not final -/
def tv_fp (own y : String) (idx ci j : Nat) (t : FieldType) : Prop := ∃ C T N, tc_cl[ci]? = some (C, T, N) ∧ j < N ∧ parseFieldDescriptor (T j).2.2.1 = some t ∧ (((T j).2.2.2 = false ∧ ((Cond.fieldLink own idx (T j).1 (T j).2.1 (T j).2.2.1) ∈ tc_TB ∨ ∃ host, (Cond.fieldLinkNest own idx (T j).1 (T j).2.1 (T j).2.2.1 host) ∈ tc_TB)) ∨ ((T j).2.2.2 = true ∧ y = "<init>" ∧ (T j).1 = own ∧ (Cond.fieldLink own idx (T j).1 (T j).2.1 (T j).2.2.1) ∈ tc_TB))
section
variable {G : tv_G} {k : tv_M} {pc : Nat} {ls : List (Option Value)} {st : List Value} {h : tv_H} {c z : Nat} {Q : tv_R → tv_H → Prop}
theorem ev_getfield {idx a : Nat} (ci j : Nat) {fs : List Value} {v : Value} (hd : decode k.2.1 pc = .ok (.getfield idx, 3)) (hf : tv_fl k.1.cls idx ci j) (hh : h[a]? = some (ci, fs)) (hv : fs[j]? = some v) (kk : tv_Ev G k (pc + 3) ls (v :: st) h c z Q) : tv_Ev G k pc ls (.ref a :: st) h c z Q := by
  intro p l e R s m args below meth cd H locs cells slots mc ms D ct A as0 ws lsm stm I hT
  obtain ⟨w1, s1, rfl, ⟨q, hq, rfl⟩, hR⟩ := hT.cons
  obtain ⟨x, hx, he⟩ := I.2.2.2.1.at hh hq
  obtain ⟨C, T, N, hc, hj, hl⟩ := hf
  obtain ⟨hci, hin, -⟩ := tc_all ci C T N hc
  obtain ⟨gs, rfl, hg⟩ := he.obj hci
  obtain ⟨w, hw, hvw⟩ := hg.get hv
  have hts := I.1.2.2.2.2.2.2.1
  rcases hl with hl | ⟨host, hl⟩
  · exact va_get (D := D) (ci := ci) (v := w) (C := C) (T := T) (N := N) I.1.2.1 I.1.2.2.1 hts hin I.1.2.2.2.2.2.1 I.2.1.1 I.2.2.2.1.1 a hx hc j hj (hts _ hl) (fun _ h9 => h9) hw hd (kk p l e R s m args below meth cd H locs cells slots mc ms D ct A as0 ws lsm _ I ⟨hvw, hR⟩)
  · exact va_getN (D := D) (ci := ci) (v := w) (C := C) (T := T) (N := N) I.1.2.1 I.1.2.2.1 hts hin I.1.2.2.2.2.2.1 I.2.1.1 I.2.2.2.1.1 a hx hc j hj (hts _ hl) (fun _ h9 => h9) hw hd (kk p l e R s m args below meth cd H locs cells slots mc ms D ct A as0 ws lsm _ I ⟨hvw, hR⟩)
theorem ev_putfield {idx a : Nat} (ci j : Nat) (t : FieldType) {fs : List Value} {v : Value} (hd : decode k.2.1 pc = .ok (.putfield idx, 3)) (hp : tv_fp k.1.cls k.1.name idx ci j t) (hh : h[a]? = some (ci, fs)) (hj : j < fs.length)
    (hn : ∀ w as, tv_v as v w → narrow t w = w ∧ fits t w = true) (kk : tv_Ev G k (pc + 3) ls st (h.set a (ci, fs.set j v)) c z Q) : tv_Ev G k pc ls (v :: .ref a :: st) h c z Q := by
  intro p l e R s m args below meth cd H locs cells slots mc ms D ct A as0 ws lsm stm I hT
  obtain ⟨w, s1, rfl, hvw, hR⟩ := hT.cons
  obtain ⟨w1, s2, rfl, ⟨q, hq, rfl⟩, hR2⟩ := hR.cons
  obtain ⟨x, hx, he⟩ := I.2.2.2.1.at hh hq
  obtain ⟨C, T, N, hc, hjN, hpt, hl⟩ := hp
  obtain ⟨hci, hin, ty, hty, hnm⟩ := tc_all ci C T N hc
  obtain ⟨gs, rfl, hg⟩ := he.obj hci
  have hts := I.1.2.2.2.2.2.2.1
  have hgl : j < gs.length := hg.len ▸ hj
  obtain ⟨n1, n2⟩ := hn w _ hvw
  have he' : tv_e (ws.map Prod.fst) ct (ci, fs.set j v) (.inr (ci, gs.set j w)) := ⟨rfl, by show ci < 100; omega, hg.set hvw⟩
  have hnext : ∀ (H1 : Heap) (locs1 : List Loc), va_P D tc_cl (ws.set a (q, .inr (ci, gs.set j w))) H1 → va_D A (ws.set a (q, .inr (ci, gs.set j w))) → va_S A s.heap H1 locs1 → W p l e R s m args below meth cd H1 locs1 cells slots (vx_MQ below (tv_Qc D ct A as0 Q) (tv_XC D ct A as0 Q) args s mc ms A) (F0 m (pc + 3) lsm s2) := fun H1 locs1 hP hD hS =>
    kk p l e R s m args below meth cd H1 locs1 cells slots mc ms D ct A as0 _ lsm _ (I.heap hP hD hS (tv_fst_set hx) (tv_hs.set he' I.2.2.2.1.2.2)) (by rw [tv_fst_set hx]; exact hR2)
  rcases hl with ⟨hfin, hl | ⟨host, hl⟩⟩ | ⟨hfin, hy, hdecl, hl⟩
  · exact va_put (D := D) (ci := ci) (v := w) (C := C) (T := T) (N := N) I.1.2.1 I.1.2.2.1 hts hin ty hty hnm I.1.2.2.2.2.2.1 I.2.1.1 I.2.2.2.1.1 I.2.2.2.1.2.1 I.2.2.2.2.1 a hx hc j hjN (hts _ hl) (fun _ h9 => h9) hfin hpt n1 n2 hgl hd hnext
  · exact va_putN (D := D) (ci := ci) (v := w) (C := C) (T := T) (N := N) I.1.2.1 I.1.2.2.1 hts hin ty hty hnm I.1.2.2.2.2.2.1 I.2.1.1 I.2.2.2.1.1 I.2.2.2.1.2.1 I.2.2.2.2.1 a hx hc j hjN (hts _ hl) (fun _ h9 => h9) hfin hpt n1 n2 hgl hd hnext
  · exact va_putF (D := D) (ci := ci) (v := w) (C := C) (T := T) (N := N) I.1.2.1 I.1.2.2.1 hts hin ty hty hnm I.1.2.2.2.2.2.1 I.2.1.1 I.2.2.2.1.1 I.2.2.2.1.2.1 I.2.2.2.2.1 a hx hc j hjN (hts _ hl) (fun _ h9 => h9) hfin (by rw [I.1.2.2.2.2.2.2.2.2.2.1]; exact hy) hdecl hpt n1 n2 hgl hd hnext
/-- an int into an int field -/
theorem ev_putI {idx a : Nat} (ci j : Nat) {fs : List Value} {x : Int32} (hd : decode k.2.1 pc = .ok (.putfield idx, 3)) (hp : tv_fp k.1.cls k.1.name idx ci j .int) (hh : h[a]? = some (ci, fs)) (hj : j < fs.length)
    (kk : tv_Ev G k (pc + 3) ls st (h.set a (ci, fs.set j (.int x))) c z Q) : tv_Ev G k pc ls (.int x :: .ref a :: st) h c z Q :=
  ev_putfield ci j .int hd hp hh hj (fun w as hw => by have hw : w = .int x := hw; subst hw; exact ⟨rfl, rfl⟩) kk
/-- a reference into a field of references -/
theorem ev_putR {idx a b : Nat} (ci j : Nat) (t : FieldType) {fs : List Value} (hd : decode k.2.1 pc = .ok (.putfield idx, 3)) (hp : tv_fp k.1.cls k.1.name idx ci j t) (ht : ∀ q, narrow t (.ref q) = .ref q ∧ fits t (.ref q) = true) (hh : h[a]? = some (ci, fs)) (hj : j < fs.length)
    (kk : tv_Ev G k (pc + 3) ls st (h.set a (ci, fs.set j (.ref b))) c z Q) : tv_Ev G k pc ls (.ref b :: .ref a :: st) h c z Q :=
  ev_putfield ci j t hd hp hh hj (fun w as hw => by obtain ⟨q, -, rfl⟩ := hw; exact ht q) kk
theorem ev_baload {a : Nat} {fs : List Value} {i : Int32} (j : Nat) {v : Value} (hd : decode k.2.1 pc = .ok (.baload, 1)) (hh : h[a]? = some (100, fs)) (hi : i = nI j) (hj : fs[j]? = some v) (hl : fs.length < 2 ^ 31) (kk : tv_Ev G k (pc + 1) ls (v :: st) h c z Q) : tv_Ev G k pc ls (.int i :: .ref a :: st) h c z Q := by
  intro p l e R s m args below meth cd H locs cells slots mc ms D ct A as0 ws lsm stm I hT
  obtain ⟨w1, s1, rfl, e1, hR⟩ := hT.cons
  have e1 : w1 = .int i := e1
  subst e1
  obtain ⟨w2, s2, rfl, ⟨q, hq, rfl⟩, hR2⟩ := hR.cons
  obtain ⟨x, hx, he⟩ := I.2.2.2.1.at hh hq
  obtain ⟨f, rfl, hf⟩ := tv_e.ints (t := 0) he (by decide)
  have hjl := (List.getElem?_eq_some_iff.mp hj).1
  have hv : v = .int (f j) := Option.some.inj (hj.symm.trans (hf j hjl))
  subst hv
  subst hi
  have hcl : (nI j).toNatClampNeg = j := nI_clamp (by omega)
  refine va_bald I.1.2.1 I.1.2.2.1 I.2.1.1 I.2.2.2.1.1 a 0 hx rfl (vp_in_nI hjl hl) hd ?_
  rw [hcl]
  exact kk p l e R s m args below meth cd H locs cells slots mc ms D ct A as0 ws lsm _ I ⟨rfl, hR2⟩
theorem ev_iaload {a : Nat} {fs : List Value} {i : Int32} (j : Nat) {v : Value} (hd : decode k.2.1 pc = .ok (.iaload, 1)) (hh : h[a]? = some (101, fs)) (hi : i = nI j) (hj : fs[j]? = some v) (hl : fs.length < 2 ^ 31) (kk : tv_Ev G k (pc + 1) ls (v :: st) h c z Q) : tv_Ev G k pc ls (.int i :: .ref a :: st) h c z Q := by
  intro p l e R s m args below meth cd H locs cells slots mc ms D ct A as0 ws lsm stm I hT
  obtain ⟨w1, s1, rfl, e1, hR⟩ := hT.cons
  have e1 : w1 = .int i := e1
  subst e1
  obtain ⟨w2, s2, rfl, ⟨q, hq, rfl⟩, hR2⟩ := hR.cons
  obtain ⟨x, hx, he⟩ := I.2.2.2.1.at hh hq
  obtain ⟨f, rfl, hf⟩ := tv_e.ints (t := 1) he (by decide)
  have hjl := (List.getElem?_eq_some_iff.mp hj).1
  have hv : v = .int (f j) := Option.some.inj (hj.symm.trans (hf j hjl))
  subst hv
  subst hi
  have hcl : (nI j).toNatClampNeg = j := nI_clamp (by omega)
  refine va_iald I.1.2.1 I.1.2.2.1 I.2.1.1 I.2.2.2.1.1 a 1 hx rfl (vp_in_nI hjl hl) hd ?_
  rw [hcl]
  exact kk p l e R s m args below meth cd H locs cells slots mc ms D ct A as0 ws lsm _ I ⟨rfl, hR2⟩
theorem ev_laload {a : Nat} {fs : List Value} {i : Int32} (j : Nat) {v : Value} (hd : decode k.2.1 pc = .ok (.laload, 1)) (hh : h[a]? = some (102, fs)) (hi : i = nI j) (hj : fs[j]? = some v) (hl : fs.length < 2 ^ 31) (kk : tv_Ev G k (pc + 1) ls (v :: st) h c z Q) : tv_Ev G k pc ls (.int i :: .ref a :: st) h c z Q := by
  intro p l e R s m args below meth cd H locs cells slots mc ms D ct A as0 ws lsm stm I hT
  obtain ⟨w1, s1, rfl, e1, hR⟩ := hT.cons
  have e1 : w1 = .int i := e1
  subst e1
  obtain ⟨w2, s2, rfl, ⟨q, hq, rfl⟩, hR2⟩ := hR.cons
  obtain ⟨x, hx, he⟩ := I.2.2.2.1.at hh hq
  obtain ⟨f, rfl, hf⟩ := tv_e.longs he
  have hjl := (List.getElem?_eq_some_iff.mp hj).1
  have hv : v = .long (f j) := Option.some.inj (hj.symm.trans (hf j hjl))
  subst hv
  subst hi
  have hcl : (nI j).toNatClampNeg = j := nI_clamp (by omega)
  refine va_lald I.1.2.1 I.1.2.2.1 I.2.1.1 I.2.2.2.1.1 a 2 hx rfl (vp_in_nI hjl hl) hd ?_
  rw [hcl]
  exact kk p l e R s m args below meth cd H locs cells slots mc ms D ct A as0 ws lsm _ I ⟨rfl, hR2⟩
theorem ev_aaload {a : Nat} {fs : List Value} {i : Int32} (j : Nat) {v : Value} (hd : decode k.2.1 pc = .ok (.aaload, 1)) (hh : h[a]? = some (103, fs)) (hi : i = nI j) (hj : fs[j]? = some v) (hl : fs.length < 2 ^ 31) (kk : tv_Ev G k (pc + 1) ls (v :: st) h c z Q) : tv_Ev G k pc ls (.int i :: .ref a :: st) h c z Q := by
  intro p l e R s m args below meth cd H locs cells slots mc ms D ct A as0 ws lsm stm I hT
  obtain ⟨w1, s1, rfl, e1, hR⟩ := hT.cons
  have e1 : w1 = .int i := e1
  subst e1
  obtain ⟨w2, s2, rfl, ⟨q, hq, rfl⟩, hR2⟩ := hR.cons
  obtain ⟨x, hx, he⟩ := I.2.2.2.1.at hh hq
  obtain ⟨f, rfl, hf⟩ := tv_e.refs he
  have hjl := (List.getElem?_eq_some_iff.mp hj).1
  obtain ⟨v', hv1, hv2⟩ := hf j hjl
  cases Option.some.inj (hj.symm.trans hv1)
  subst hi
  have hcl : (nI j).toNatClampNeg = j := nI_clamp (by omega)
  refine va_aldq I.1.2.1 I.1.2.2.1 I.2.1.1 I.2.2.2.1.1 a 3 hx rfl (vp_in_nI hjl hl) hd ?_
  rw [hcl]
  exact kk p l e R s m args below meth cd H locs cells slots mc ms D ct A as0 ws lsm _ I ⟨hv2, hR2⟩
theorem ev_bastore {a : Nat} {fs : List Value} {i : Int32} {x : Int32} (j : Nat) (hd : decode k.2.1 pc = .ok (.bastore, 1)) (hh : h[a]? = some (100, fs)) (hi : i = nI j) (hj : j < fs.length) (hl : fs.length < 2 ^ 31) (kk : tv_Ev G k (pc + 1) ls st (h.set a (100, fs.set j (.int x.toInt8.toInt32))) c z Q) : tv_Ev G k pc ls (.int x :: .int i :: .ref a :: st) h c z Q := by
  intro p l e R s m args below meth cd H locs cells slots mc ms D ct A as0 ws lsm stm I hT
  obtain ⟨w0, s0, rfl, e0, hR0⟩ := hT.cons
  have e0 : w0 = .int x := e0
  subst e0
  obtain ⟨w1, s1, rfl, e1, hR⟩ := hR0.cons
  have e1 : w1 = .int i := e1
  subst e1
  obtain ⟨w2, s2, rfl, ⟨q, hq, rfl⟩, hR2⟩ := hR.cons
  obtain ⟨y, hy, he⟩ := I.2.2.2.1.at hh hq
  obtain ⟨f, rfl, hf⟩ := tv_e.ints (t := 0) he (by decide)
  subst hi
  have hcl : (nI j).toNatClampNeg = j := nI_clamp (by omega)
  refine va_bast I.1.2.1 I.1.2.2.1 I.2.1.1 I.2.2.2.1.1 I.2.2.2.1.2.1 I.2.2.2.2.1 a 0 hy rfl (vp_in_nI hj hl) hd (fun H1 locs1 hP hD hS => ?_)
  rw [hcl] at hP hD
  have he' : tv_e (ws.map Prod.fst) ct (100, fs.set j (.int x.toInt8.toInt32)) (.inl (ct 0, fs.length, .inl (upd f j (vp_nar .byte x)))) := ⟨0, rfl, by decide, rfl, by simp, fun n hn => by
      rw [List.getElem?_set]
      by_cases hnj : j = n
      · subst hnj
        rw [if_pos rfl, if_pos hn]
        simp [upd, vp_nar_byte]
      · rw [if_neg hnj, hf n hn]
        simp [upd, Ne.symm hnj]⟩
  exact kk p l e R s m args below meth cd H1 locs1 cells slots mc ms D ct A as0 _ lsm _ (I.heap hP hD hS (tv_fst_set hy) (tv_hs.set he' I.2.2.2.1.2.2)) (by rw [tv_fst_set hy]; exact hR2)
theorem ev_iastore {a : Nat} {fs : List Value} {i : Int32} {x : Int32} (j : Nat) (hd : decode k.2.1 pc = .ok (.iastore, 1)) (hh : h[a]? = some (101, fs)) (hi : i = nI j) (hj : j < fs.length) (hl : fs.length < 2 ^ 31) (kk : tv_Ev G k (pc + 1) ls st (h.set a (101, fs.set j (.int x))) c z Q) : tv_Ev G k pc ls (.int x :: .int i :: .ref a :: st) h c z Q := by
  intro p l e R s m args below meth cd H locs cells slots mc ms D ct A as0 ws lsm stm I hT
  obtain ⟨w0, s0, rfl, e0, hR0⟩ := hT.cons
  have e0 : w0 = .int x := e0
  subst e0
  obtain ⟨w1, s1, rfl, e1, hR⟩ := hR0.cons
  have e1 : w1 = .int i := e1
  subst e1
  obtain ⟨w2, s2, rfl, ⟨q, hq, rfl⟩, hR2⟩ := hR.cons
  obtain ⟨y, hy, he⟩ := I.2.2.2.1.at hh hq
  obtain ⟨f, rfl, hf⟩ := tv_e.ints (t := 1) he (by decide)
  subst hi
  have hcl : (nI j).toNatClampNeg = j := nI_clamp (by omega)
  refine va_iast I.1.2.1 I.1.2.2.1 I.2.1.1 I.2.2.2.1.1 I.2.2.2.1.2.1 I.2.2.2.2.1 a 1 hy rfl (vp_in_nI hj hl) hd (fun H1 locs1 hP hD hS => ?_)
  rw [hcl] at hP hD
  have he' : tv_e (ws.map Prod.fst) ct (101, fs.set j (.int x)) (.inl (ct 1, fs.length, .inl (upd f j x))) := ⟨1, rfl, by decide, rfl, by simp, fun n hn => by
      rw [List.getElem?_set]
      by_cases hnj : j = n
      · subst hnj
        rw [if_pos rfl, if_pos hn]
        simp [upd]
      · rw [if_neg hnj, hf n hn]
        simp [upd, Ne.symm hnj]⟩
  exact kk p l e R s m args below meth cd H1 locs1 cells slots mc ms D ct A as0 _ lsm _ (I.heap hP hD hS (tv_fst_set hy) (tv_hs.set he' I.2.2.2.1.2.2)) (by rw [tv_fst_set hy]; exact hR2)
theorem ev_lastore {a : Nat} {fs : List Value} {i : Int32} {x : Int64} (j : Nat) (hd : decode k.2.1 pc = .ok (.lastore, 1)) (hh : h[a]? = some (102, fs)) (hi : i = nI j) (hj : j < fs.length) (hl : fs.length < 2 ^ 31) (kk : tv_Ev G k (pc + 1) ls st (h.set a (102, fs.set j (.long x))) c z Q) : tv_Ev G k pc ls (.long x :: .int i :: .ref a :: st) h c z Q := by
  intro p l e R s m args below meth cd H locs cells slots mc ms D ct A as0 ws lsm stm I hT
  obtain ⟨w0, s0, rfl, e0, hR0⟩ := hT.cons
  have e0 : w0 = .long x := e0
  subst e0
  obtain ⟨w1, s1, rfl, e1, hR⟩ := hR0.cons
  have e1 : w1 = .int i := e1
  subst e1
  obtain ⟨w2, s2, rfl, ⟨q, hq, rfl⟩, hR2⟩ := hR.cons
  obtain ⟨y, hy, he⟩ := I.2.2.2.1.at hh hq
  obtain ⟨f, rfl, hf⟩ := tv_e.longs he
  subst hi
  have hcl : (nI j).toNatClampNeg = j := nI_clamp (by omega)
  refine va_last I.1.2.1 I.1.2.2.1 I.2.1.1 I.2.2.2.1.1 I.2.2.2.1.2.1 I.2.2.2.2.1 a 2 hy rfl (vp_in_nI hj hl) hd (fun H1 locs1 hP hD hS => ?_)
  rw [hcl] at hP hD
  have he' : tv_e (ws.map Prod.fst) ct (102, fs.set j (.long x)) (.inl (ct 2, fs.length, .inr (.inl (vp_updL f j x)))) := ⟨rfl, rfl, by simp, fun n hn => by
      rw [List.getElem?_set]
      by_cases hnj : j = n
      · subst hnj
        rw [if_pos rfl, if_pos hn]
        simp [vp_updL]
      · rw [if_neg hnj, hf n hn]
        simp [vp_updL, Ne.symm hnj]⟩
  exact kk p l e R s m args below meth cd H1 locs1 cells slots mc ms D ct A as0 _ lsm _ (I.heap hP hD hS (tv_fst_set hy) (tv_hs.set he' I.2.2.2.1.2.2)) (by rw [tv_fst_set hy]; exact hR2)
theorem ev_aastore {a b : Nat} {fs gs : List Value} {i : Int32} (j : Nat) (hd : decode k.2.1 pc = .ok (.aastore, 1)) (hh : h[a]? = some (103, fs)) (hb : h[b]? = some (0, gs)) (hi : i = nI j) (hj : j < fs.length) (hl : fs.length < 2 ^ 31) (kk : tv_Ev G k (pc + 1) ls st (h.set a (103, fs.set j (.ref b))) c z Q) : tv_Ev G k pc ls (.ref b :: .int i :: .ref a :: st) h c z Q := by
  intro p l e R s m args below meth cd H locs cells slots mc ms D ct A as0 ws lsm stm I hT
  obtain ⟨w0, s0, rfl, ⟨qb, hqb, rfl⟩, hR0⟩ := hT.cons
  obtain ⟨w1, s1, rfl, e1, hR⟩ := hR0.cons
  have e1 : w1 = .int i := e1
  subst e1
  obtain ⟨w2, s2, rfl, ⟨q, hq, rfl⟩, hR2⟩ := hR.cons
  obtain ⟨y, hy, he⟩ := I.2.2.2.1.at hh hq
  obtain ⟨f, rfl, hf⟩ := tv_e.refs he
  obtain ⟨yb, hyb, heb⟩ := I.2.2.2.1.at hb hqb
  obtain ⟨ob, rfl, -⟩ := heb.obj (by decide)
  subst hi
  have hcl : (nI j).toNatClampNeg = j := nI_clamp (by omega)
  refine va_astq I.1.2.1 I.1.2.2.1 I.2.1.1 I.2.2.2.1.1 I.2.2.2.1.2.1 I.2.2.2.2.1 a 3 b 0 (r := (tc_R0, tc_T0, 4)) hy rfl hyb rfl (vp_in_nI hj hl) hd (fun H1 locs1 hP hD hS => ?_)
  rw [hcl] at hP hD
  have he' : tv_e (ws.map Prod.fst) ct (103, fs.set j (.ref b)) (.inl (ct 3, fs.length, .inr (.inr (.inr (.inr (va_up f j (some qb))))))) := ⟨rfl, rfl, by simp, fun n hn => by
      by_cases hnj : j = n
      · subst hnj
        exact ⟨.ref b, by rw [List.getElem?_set, if_pos rfl, if_pos hn], qb, hqb, by simp [va_up, va_rf]⟩
      · obtain ⟨v, h1, h2⟩ := hf n hn
        exact ⟨v, by rw [List.getElem?_set, if_neg hnj]; exact h1, by simpa [va_up, Ne.symm hnj] using h2⟩⟩
  exact kk p l e R s m args below meth cd H1 locs1 cells slots mc ms D ct A as0 _ lsm _ (I.heap hP hD hS (tv_fst_set hy) (tv_hs.set he' I.2.2.2.1.2.2)) (by rw [tv_fst_set hy]; exact hR2)
/-- the script -/
theorem ev_slen (hd : decode k.2.1 pc = .ok (.arraylength, 1)) (kk : tv_Ev G k (pc + 1) ls (.int (nI G.2.1) :: st) h c z Q) : tv_Ev G k pc ls (.retAddr G.1 :: st) h c z Q := by
  intro p l e R s m args below meth cd H locs cells slots mc ms D ct A as0 ws lsm stm I hT
  obtain ⟨w1, s1, rfl, e1, hR⟩ := hT.cons
  have e1 : w1 = .ref G.1 := e1
  subst e1
  obtain ⟨-, -, -, -, -, -, hX, hb, hA⟩ := id I.2.1
  exact va_slen I.1.2.1 I.1.2.2.1 hX hb hA I.2.2.2.2.1 hd (kk p l e R s m args below meth cd H locs cells slots mc ms D ct A as0 ws lsm _ I ⟨rfl, hR⟩)
theorem ev_sld {i : Int32} (j : Nat) (hd : decode k.2.1 pc = .ok (.iaload, 1)) (hi : i = nI j) (hj : j < G.2.1) (hl : G.2.1 < 2 ^ 31) (kk : tv_Ev G k (pc + 1) ls (.int (G.2.2 j) :: st) h c z Q) : tv_Ev G k pc ls (.int i :: .retAddr G.1 :: st) h c z Q := by
  intro p l e R s m args below meth cd H locs cells slots mc ms D ct A as0 ws lsm stm I hT
  obtain ⟨w0, s0, rfl, e0, hR0⟩ := hT.cons
  have e0 : w0 = .int i := e0
  subst e0
  obtain ⟨w1, s1, rfl, e1, hR⟩ := hR0.cons
  have e1 : w1 = .ref G.1 := e1
  subst e1
  obtain ⟨-, -, -, -, -, -, hX, hb, hA⟩ := id I.2.1
  subst hi
  have hcl : (nI j).toNatClampNeg = j := nI_clamp (by omega)
  refine va_sld I.1.2.1 I.1.2.2.1 hX hb hA I.2.2.2.2.1 (vp_in_nI hj hl) hd ?_
  rw [hcl]
  exact kk p l e R s m args below meth cd H locs cells slots mc ms D ct A as0 ws lsm _ I ⟨rfl, hR⟩
end
end
section
/-! THE RULES for new cells, ends, throws and calls -/
theorem tv_last {ws : va_W} {h : tv_H} {as : List Nat} {ct : Nat → ClassId} {q : Nat} {x : va_E} (hh : tv_hs as ct h ws) : ((ws ++ [(q, x)]).map Prod.fst)[h.length]? = some q := by
  rw [List.getElem?_map, hh.len, List.getElem?_concat_length]
  rfl
theorem tv_ra {D : va_G} {tys : List (ClassId × FieldType)} {s : State} {a b : ClassId} {i j : Nat} {t : FieldType} (h : va_K D tc_cl tys s) (hi : tys[i]? = some (a, t)) (hj : tys[j]? = some (b, t)) : a = b := by
  have h1 := (h.2 i _ hi).2
  have h2 := (h.2 j _ hj).2
  cases t with
  | object C =>
    obtain ⟨_, _, -, -, -, e1⟩ := h1
    obtain ⟨_, _, -, -, -, e2⟩ := h2
    exact Option.some.inj (e1.symm.trans e2)
  | _ => exact Option.some.inj (h1.symm.trans h2)
section
variable {G : tv_G} {k : tv_M} {pc : Nat} {ls : List (Option Value)} {st : List Value} {h : tv_H} {c z : Nat} {Q : tv_R → tv_H → Prop}
theorem ev_new {idx : Nat} (ci : Nat) (fs : List Value) (C : String) (T : u_T) (N : Nat) (hd : decode k.2.1 pc = .ok (.new idx, 3)) (hc : tc_cl[ci]? = some (C, T, N)) (w1 : Cond.classLink k.1.cls idx C ∈ tc_TB) (w2 : Cond.instantiable C N ∈ tc_TB) (w3 : Cond.initialized C ∈ tc_TB)
    (hfs : ∀ j, j < N → (parseFieldDescriptor (T j).2.2.1).map defaultValue = some (vp_V fs j)) (hv : ∀ as, tv_vs as fs fs) (kk : tv_Ev G k (pc + 3) ls (.ref h.length :: st) (h ++ [(ci, fs)]) c z Q) : tv_Ev G k pc ls st h (c + 1) (z + N) Q := by
  intro p l e R s m args below meth cd H locs cells slots mc ms D ct A as0 ws lsm stm I hT
  obtain ⟨hci, hin, ty, hty, hnm⟩ := tc_all ci C T N hc
  have hts := I.1.2.2.2.2.2.2.1
  have b1 := I.2.2.2.2.2.2.2
  refine va_new (ci := ci) (fs := fs) (C := C) (T := T) (N := N) I.1.2.1 I.1.2.2.1 hts hin ty hty I.1.2.2.2.2.2.1 (hts _ w1) (hts _ w2) (hts _ w3) I.2.1.1 I.2.2.2.1.1 I.2.2.2.1.2.1 I.2.2.2.2.1 I.2.2.1 hc (fun j hj => ?_) (by omega) (by omega) hd (fun q H1 hP hD hS => ?_)
  · have h1 := hfs j hj
    rw [hty j hj] at h1
    exact Option.some.inj h1
  · have I' := tv_I.push (e := (ci, fs)) I hP hD hS ⟨rfl, by show ci < 100; omega, hv _⟩
    exact kk p l e R s m args below meth cd H1 locs (cells + 1) (slots + N) mc ms D ct A as0 _ lsm _ I' ⟨⟨q, tv_last I.2.2.2.1.2.2, rfl⟩, hT.mono (by rw [List.map_append]; exact List.prefix_append _ _)⟩
theorem ev_newbyte {n : Int32} (N : Nat) (hd : decode k.2.1 pc = .ok (.newarray .byte, 2)) (hn : n = nI N) (hN : N < 2 ^ 20) (w1 : Cond.arrayClass .byte ∈ tc_TB) (kk : tv_Ev G k (pc + 2) ls (.ref h.length :: st) (h ++ [(100, List.replicate N (.int 0))]) c z Q) : tv_Ev G k pc ls (.int n :: st) h (c + 1) (z + N) Q := by
  intro p l e R s m args below meth cd H locs cells slots mc ms D ct A as0 ws lsm stm I hT
  obtain ⟨w, s1, rfl, hw, hR⟩ := hT.cons
  have hw : w = .int n := hw
  subst hw
  have b1 := I.2.2.2.2.2.2.2
  have hts := I.1.2.2.2.2.2.2.1
  subst hn
  refine va_newa (atype := .byte) (ty := .byte) (a0 := (N, .inl (fun _ => 0))) I.1.2.1 I.1.2.2.1 (hts _ w1) rfl I.2.1.1 I.2.2.2.1.1 I.2.2.2.1.2.1 I.2.2.2.2.1 I.2.2.1 (fun _ => rfl) (nI_pos (by omega)) (nI_clamp (by omega)) (by show N * 1 ≤ _; omega) (by omega) (by omega) hd (fun q cA H1 hK hP hD hS => ?_)
  have hcA : cA = ct 0 := tv_ra (i := 4) (j := 0) hK rfl rfl
  subst hcA
  have he : tv_e ((ws ++ [(q, (.inl (ct 0, N, .inl (fun _ => (0 : Int32))) : va_E))]).map Prod.fst) ct (100, List.replicate N (.int 0)) (.inl (ct 0, N, .inl (fun _ => 0))) := ⟨0, rfl, by decide, rfl, by simp, fun i hi => by rw [List.getElem?_replicate, if_pos hi]⟩
  have I' := tv_I.push (e := (100, List.replicate N (.int 0))) I hP hD hS he
  exact kk p l e R s m args below meth cd H1 locs (cells + 1) (slots + N) mc ms D ct A as0 _ lsm _ I' ⟨⟨q, tv_last I.2.2.2.1.2.2, rfl⟩, hR.mono (by rw [List.map_append]; exact List.prefix_append _ _)⟩
theorem ev_newint {n : Int32} (N : Nat) (hd : decode k.2.1 pc = .ok (.newarray .int, 2)) (hn : n = nI N) (hN : N < 2 ^ 20) (w1 : Cond.arrayClass .int ∈ tc_TB) (kk : tv_Ev G k (pc + 2) ls (.ref h.length :: st) (h ++ [(101, List.replicate N (.int 0))]) c z Q) : tv_Ev G k pc ls (.int n :: st) h (c + 1) (z + N) Q := by
  intro p l e R s m args below meth cd H locs cells slots mc ms D ct A as0 ws lsm stm I hT
  obtain ⟨w, s1, rfl, hw, hR⟩ := hT.cons
  have hw : w = .int n := hw
  subst hw
  have b1 := I.2.2.2.2.2.2.2
  have hts := I.1.2.2.2.2.2.2.1
  subst hn
  refine va_newa (atype := .int) (ty := .int) (a0 := (N, .inl (fun _ => 0))) I.1.2.1 I.1.2.2.1 (hts _ w1) rfl I.2.1.1 I.2.2.2.1.1 I.2.2.2.1.2.1 I.2.2.2.2.1 I.2.2.1 (fun _ => rfl) (nI_pos (by omega)) (nI_clamp (by omega)) (by show N * 4 ≤ _; omega) (by omega) (by omega) hd (fun q cA H1 hK hP hD hS => ?_)
  have hcA : cA = ct 1 := tv_ra (i := 4) (j := 1) hK rfl rfl
  subst hcA
  have he : tv_e ((ws ++ [(q, (.inl (ct 1, N, .inl (fun _ => (0 : Int32))) : va_E))]).map Prod.fst) ct (101, List.replicate N (.int 0)) (.inl (ct 1, N, .inl (fun _ => 0))) := ⟨1, rfl, by decide, rfl, by simp, fun i hi => by rw [List.getElem?_replicate, if_pos hi]⟩
  have I' := tv_I.push (e := (101, List.replicate N (.int 0))) I hP hD hS he
  exact kk p l e R s m args below meth cd H1 locs (cells + 1) (slots + N) mc ms D ct A as0 _ lsm _ I' ⟨⟨q, tv_last I.2.2.2.1.2.2, rfl⟩, hR.mono (by rw [List.map_append]; exact List.prefix_append _ _)⟩
theorem ev_newlong {n : Int32} (N : Nat) (hd : decode k.2.1 pc = .ok (.newarray .long, 2)) (hn : n = nI N) (hN : N < 2 ^ 20) (w1 : Cond.arrayClass .long ∈ tc_TB) (kk : tv_Ev G k (pc + 2) ls (.ref h.length :: st) (h ++ [(102, List.replicate N (.long 0))]) c z Q) : tv_Ev G k pc ls (.int n :: st) h (c + 1) (z + N) Q := by
  intro p l e R s m args below meth cd H locs cells slots mc ms D ct A as0 ws lsm stm I hT
  obtain ⟨w, s1, rfl, hw, hR⟩ := hT.cons
  have hw : w = .int n := hw
  subst hw
  have b1 := I.2.2.2.2.2.2.2
  have hts := I.1.2.2.2.2.2.2.1
  subst hn
  refine va_newa (atype := .long) (ty := .long) (a0 := (N, .inr (.inl (fun _ => 0)))) I.1.2.1 I.1.2.2.1 (hts _ w1) rfl I.2.1.1 I.2.2.2.1.1 I.2.2.2.1.2.1 I.2.2.2.2.1 I.2.2.1 (fun _ => rfl) (nI_pos (by omega)) (nI_clamp (by omega)) (by show N * 8 ≤ _; omega) (by omega) (by omega) hd (fun q cA H1 hK hP hD hS => ?_)
  have hcA : cA = ct 2 := tv_ra (i := 4) (j := 2) hK rfl rfl
  subst hcA
  have he : tv_e ((ws ++ [(q, (.inl (ct 2, N, .inr (.inl (fun _ => (0 : Int64)))) : va_E))]).map Prod.fst) ct (102, List.replicate N (.long 0)) (.inl (ct 2, N, .inr (.inl (fun _ => 0)))) := ⟨rfl, rfl, by simp, fun i hi => by rw [List.getElem?_replicate, if_pos hi]⟩
  have I' := tv_I.push (e := (102, List.replicate N (.long 0))) I hP hD hS he
  exact kk p l e R s m args below meth cd H1 locs (cells + 1) (slots + N) mc ms D ct A as0 _ lsm _ I' ⟨⟨q, tv_last I.2.2.2.1.2.2, rfl⟩, hR.mono (by rw [List.map_append]; exact List.prefix_append _ _)⟩
theorem ev_anewarray {idx : Nat} {n : Int32} (N : Nat) (hd : decode k.2.1 pc = .ok (.anewarray idx, 3)) (hn : n = nI N) (hN : N < 2 ^ 20) (w1 : Cond.classLink k.1.cls idx "TreeChanges$Entry" ∈ tc_TB) (kk : tv_Ev G k (pc + 3) ls (.ref h.length :: st) (h ++ [(103, List.replicate N .null)]) c z Q) : tv_Ev G k pc ls (.int n :: st) h (c + 1) (z + N) Q := by
  intro p l e R s m args below meth cd H locs cells slots mc ms D ct A as0 ws lsm stm I hT
  obtain ⟨w, s1, rfl, hw, hR⟩ := hT.cons
  have hw : w = .int n := hw
  subst hw
  have b1 := I.2.2.2.2.2.2.2
  have hts := I.1.2.2.2.2.2.2.1
  subst hn
  refine va_newq (C := "TreeChanges$Entry") (N' := N) I.1.2.1 I.1.2.2.1 I.1.2.2.2.2.2.1 (hts _ w1) I.2.1.2.2.1 I.2.1.1 I.2.2.2.1.1 I.2.2.2.1.2.1 I.2.2.2.2.1 I.2.2.1 (nI_pos (by omega)) (nI_clamp (by omega)) (by omega) (by omega) (by omega) hd (fun q cA H1 hK hP hD hS => ?_)
  have hcA : cA = ct 3 := tv_ra (i := 4) (j := 3) hK rfl rfl
  subst hcA
  have he : tv_e ((ws ++ [(q, (.inl (ct 3, N, .inr (.inr (.inr (.inr (fun _ => none))))) : va_E))]).map Prod.fst) ct (103, List.replicate N .null) (.inl (ct 3, N, .inr (.inr (.inr (.inr (fun _ => none)))))) := ⟨rfl, rfl, by simp, fun i hi => ⟨.null, by rw [List.getElem?_replicate, if_pos hi], rfl⟩⟩
  have I' := tv_I.push (e := (103, List.replicate N .null)) I hP hD hS he
  exact kk p l e R s m args below meth cd H1 locs (cells + 1) (slots + N) mc ms D ct A as0 _ lsm _ I' ⟨⟨q, tv_last I.2.2.2.1.2.2, rfl⟩, hR.mono (by rw [List.map_append]; exact List.prefix_append _ _)⟩
/-! ends -/
theorem tv_end {v w : Option Value} {p : Program} {l : Launch} {R : Room} {s : State} {m : MethodId} {args : Array Value} {meth : Method} {cd : Code} {H : Heap} {locs : List Loc} {cells slots mc ms : Nat} {D : va_G} {ct : Nat → ClassId} {A : Nat → Prop} {as0 : List Nat} {ws : va_W} {lsm : Array Slot}
    (I : tv_I G k ls h c z p l R s m args meth cd H locs cells slots mc ms D ct A as0 ws lsm) (hv : tv_ov (ws.map Prod.fst) v w) (hQ : Q (.inl v) h) {t : State} (ht : t.heap = H) : tv_Qc D ct A as0 Q args s (.returned w) t :=
  ⟨⟨v, w, h, ws, rfl, hv, hQ, by rw [ht]; exact I.2.2.2.1, I.2.2.2.2.2.1⟩, I.2.2.2.2.1.F ht⟩
theorem ev_ireturn {x : Int32} (hd : decode k.2.1 pc = .ok (.ireturn, 1)) (hr : k.2.2.2.1 = some .int) (hQ : Q (.inl (some (.int x))) h) : tv_Ev G k pc ls [.int x] h c z Q := by
  intro p l e R s m args below meth cd H locs cells slots mc ms D ct A as0 ws lsm stm I hT
  obtain ⟨w, s1, rfl, hw, hR⟩ := hT.cons
  have hw : w = .int x := hw
  subst hw
  cases hR.nil
  have b1 := I.2.2.2.2.2.2.2
  refine W.widen (k := mc) (n := ms) (by omega) (by omega) (vx_ret ?_)
  exact W.iret I.1.2.1 I.1.2.2.1 (I.1.2.2.2.1.trans hr) (fun t ht hW => tv_end I (v := some (.int x)) (w := some (.int x)) rfl hQ ht) I.2.2.2.2.1.2.2 hd I.1.2.2.2.2.2.2.2.1
theorem ev_zreturn {x : Int32} (hd : decode k.2.1 pc = .ok (.ireturn, 1)) (hr : k.2.2.2.1 = some .boolean) (hx : x = 0 ∨ x = 1) (hQ : Q (.inl (some (.int x))) h) : tv_Ev G k pc ls [.int x] h c z Q := by
  intro p l e R s m args below meth cd H locs cells slots mc ms D ct A as0 ws lsm stm I hT
  obtain ⟨w, s1, rfl, hw, hR⟩ := hT.cons
  have hw : w = .int x := hw
  subst hw
  cases hR.nil
  have b1 := I.2.2.2.2.2.2.2
  refine W.widen (k := mc) (n := ms) (by omega) (by omega) (vx_ret ?_)
  exact W.zret I.1.2.1 I.1.2.2.1 (I.1.2.2.2.1.trans hr) (by rcases hx with rfl | rfl <;> decide) (fun t ht hW => tv_end I (v := some (.int x)) (w := some (.int x)) rfl hQ ht) I.2.2.2.2.1.2.2 hd I.1.2.2.2.2.2.2.2.1
theorem ev_areturn {a : Nat} {C : String} (hd : decode k.2.1 pc = .ok (.areturn, 1)) (hr : k.2.2.2.1 = some (.object C)) (hQ : Q (.inl (some (.ref a))) h) : tv_Ev G k pc ls [.ref a] h c z Q := by
  intro p l e R s m args below meth cd H locs cells slots mc ms D ct A as0 ws lsm stm I hT
  obtain ⟨w, s1, rfl, ⟨q, hq, rfl⟩, hR⟩ := hT.cons
  cases hR.nil
  have b1 := I.2.2.2.2.2.2.2
  refine W.widen (k := mc) (n := ms) (by omega) (by omega) (vx_ret ?_)
  exact W.aret I.1.2.1 I.1.2.2.1 (I.1.2.2.2.1.trans hr) (Or.inl ⟨C, rfl⟩) (Or.inr ⟨q, rfl⟩) (fun t ht hW => tv_end I (v := some (.ref a)) (w := some (.ref q)) ⟨q, hq, rfl⟩ hQ ht) I.2.2.2.2.1.2.2 hd I.1.2.2.2.2.2.2.2.1
theorem ev_return (hd : decode k.2.1 pc = .ok (.return_, 1)) (hr : k.2.2.2.1 = none) (hQ : Q (.inl none) h) : tv_Ev G k pc ls [] h c z Q := by
  intro p l e R s m args below meth cd H locs cells slots mc ms D ct A as0 ws lsm stm I hT
  cases hT.nil
  have b1 := I.2.2.2.2.2.2.2
  refine W.widen (k := mc) (n := ms) (by omega) (by omega) (vx_ret ?_)
  exact W.vret I.1.2.1 I.1.2.2.1 (I.1.2.2.2.1.trans hr) (fun t ht hW => tv_end I (v := none) (w := none) trivial hQ ht) I.2.2.2.2.1.2.2 hd I.1.2.2.2.2.2.2.2.1
/-- less room is enough -/
theorem ev_room {c' z' : Nat} (hc : c' ≤ c) (hz : z' ≤ z) (kk : tv_Ev G k pc ls st h c' z' Q) : tv_Ev G k pc ls st h c z Q := by
  intro p l e R s m args below meth cd H locs cells slots mc ms D ct A as0 ws lsm stm I hT
  obtain ⟨i1, i2, i3, i4, i5, i6, i7, i8, i9, i10⟩ := I
  exact kk p l e R s m args below meth cd H locs cells slots mc ms D ct A as0 ws lsm stm ⟨i1, i2, i3, i4, i5, i6, i7, by omega, by omega, i10⟩ hT
theorem ev_post {Q' : tv_R → tv_H → Prop} (hQ : ∀ r h', Q' r h' → Q r h') (kk : tv_Ev G k pc ls st h c z Q') : tv_Ev G k pc ls st h c z Q := by
  intro p l e R s m args below meth cd H locs cells slots mc ms D ct A as0 ws lsm stm I hT T hTH X
  obtain ⟨t, a1, o, b1, b2, b3⟩ := kk p l e R s m args below meth cd H locs cells slots mc ms D ct A as0 ws lsm stm I hT T hTH X
  refine ⟨t, a1, o, b1, b2, ?_⟩
  rcases b3 with ⟨⟨⟨v, w, h', ws', e1, e2, e3, e4⟩, e5⟩, e6⟩ | ⟨q, e0, E, ce, L, ⟨⟨h', ws', e1, e2⟩, e3⟩, e4⟩
  · exact Or.inl ⟨⟨⟨v, w, h', ws', e1, e2, hQ _ _ e3, e4⟩, e5⟩, e6⟩
  · exact Or.inr ⟨q, e0, E, ce, L, ⟨⟨h', ws', hQ _ _ e1, e2⟩, e3⟩, e4⟩
end
end
section
/-! THE RULES for throws, handlers, calls; a contract out of a walk -/
section
variable {G : tv_G} {k : tv_M} {pc : Nat} {ls : List (Option Value)} {st : List Value} {h : tv_H} {c z : Nat} {Q : tv_R → tv_H → Prop}
/-- E is thrown over the frame at pc -/
def tv_Xv (G : tv_G) (k : tv_M) (pc : Nat) (ls : List (Option Value)) (h : tv_H) (c z : Nat) (Q : tv_R → tv_H → Prop) (E : String) : Prop :=
  ∀ (p : Program) (l : Launch) (e : Env) (R : Room) (s : State) (m : MethodId) (args : Array Value) (below : List Frame) (meth : Method) (cd : Code) (H : Heap) (locs : List Loc) (cells slots mc ms : Nat) (D : va_G) (ct : Nat → ClassId) (A : Nat → Prop) (as0 : List Nat) (ws : va_W) (lsm : Array Slot) (stm : List Value) (q : Addr) (ce : Cell),
    tv_I G k ls h c z p l R s m args meth cd H locs cells slots mc ms D ct A as0 ws lsm → H[q]? = some ce → ce.vm = .none → s.vm.findClass E = some ce.cls →
    vx_W p l e R s m args below meth cd H locs cells slots (vx_MQ below (tv_Qc D ct A as0 Q) (tv_XC D ct A as0 Q) args s mc ms A) (F0 m pc lsm stm) q
theorem xv_out {E : String} (hh : k.2.2.2.2.1 = []) (hQ : Q (.inr E) h) : tv_Xv G k pc ls h c z Q E := by
  intro p l e R s m args below meth cd H locs cells slots mc ms D ct A as0 ws lsm stm q ce I hq hv hcl
  have b1 := I.2.2.2.2.2.2.2
  have ht := I.1.2.2.2.2.2.2.2.2.1
  rw [hh] at ht
  refine vx_out (fun x hx => by rw [ht] at hx; cases hx) I.1.2.2.2.2.2.2.2.1 hq hv hcl (fun t hth _ => ?_) I.2.2.2.2.1.2.2 (by omega) (by omega)
  exact ⟨⟨h, ws, hQ, by rw [hth]; exact I.2.2.2.1, I.2.2.2.2.2.1⟩, I.2.2.2.2.1.F hth⟩
theorem xv_catch {E : String} (name : String) (pre : List ExceptionTableEntry) (x : ExceptionTableEntry) (suf : List ExceptionTableEntry) (hsplit : tableOf k.2.2.2.2.1 = pre ++ x :: suf)
    (hpass : ∀ y ∈ pre, covers y pc = false ∨ (y.catchType ≠ 0 ∧ ∃ nm : String, Cond.classLink k.1.cls y.catchType nm ∈ tc_TB ∧ (E, nm) ∈ tv_nc)) (hx : covers x pc = true) (h0 : x.catchType ≠ 0) (hlink : Cond.classLink k.1.cls x.catchType name ∈ tc_TB) (hcast : Cond.castable E name ∈ tc_TB)
    (kk : ∀ q : Nat, tv_Ev G k x.handlerPc ls [.retAddr q] h c z Q) : tv_Xv G k pc ls h c z Q E := by
  intro p l e R s m args below meth cd H locs cells slots mc ms D ct A as0 ws lsm stm q ce I hq hv hcl
  have hts := I.1.2.2.2.2.2.2.1
  refine vx_catch (name := name) I.1.2.2.2.2.2.1 pre x suf (I.1.2.2.2.2.2.2.2.2.1.trans hsplit) (fun y hy => ?_) hx h0 (hts _ hlink) (hts _ hcast) hq hv hcl (kk q p l e R s m args below meth cd H locs cells slots mc ms D ct A as0 ws lsm _ I ⟨rfl, trivial⟩)
  rcases hpass y hy with h1 | ⟨h1, nm, h2, h3⟩
  · exact Or.inl h1
  · exact Or.inr ⟨h1, nm, hts _ h2, I.2.1.2.2.2.1 _ h3⟩
/-- throw new E("text") -/
theorem ev_throw {ik is ic : Nat} (cls text : String) (hh : k.2.2.2.2.1 = []) (hown : k.1.cls = "TreeChanges") (hcls : Bundle.fit cls = true) (w1 : Cond.classLink k.1.cls ik cls ∈ tc_TB) (w2 : Cond.initialized cls ∈ tc_TB) (hstr : (is, text) ∈ tv_strs)
    (hat : ∀ w ∈ vx_atS k.1.cls ic cls ["java/lang/RuntimeException", "java/lang/Exception"], w ∈ tc_TB) (hgood : ∀ w ∈ Cond.classLink k.1.cls ik cls :: Cond.initialized cls :: vx_atS k.1.cls ic cls ["java/lang/RuntimeException", "java/lang/Exception"], vx_ot w = true)
    (d0 : decode k.2.1 pc = .ok (.new ik, 3)) (d3 : decode k.2.1 (pc + 3) = .ok (.dup, 1)) (d4 : decode k.2.1 (pc + 4) = .ok (.ldc is, 2)) (d6 : decode k.2.1 (pc + 6) = .ok (.invokespecial ic, 3)) (d9 : decode k.2.1 (pc + 9) = .ok (.athrow, 1))
    (hfr : 6 ≤ k.2.2.2.2.2.1) (hlc : 90 ≤ k.2.2.2.2.2.2) (hst : (st.map fun v => v.category).sum ≤ 8) (hQ : Q (.inr cls) h) : tv_Ev G k pc ls st h (c + 1) (z + 6) Q := by
  intro p l e R s m args below meth cd H locs cells slots mc ms D ct A as0 ws lsm stm I hT
  have hts := I.1.2.2.2.2.2.2.1
  have b1 := I.2.2.2.2.2.2.2
  have r1 := I.1.2.2.2.2.2.2.2.2.2.2.1
  have r2 := I.1.2.2.2.2.2.2.2.2.2.2.2
  have ht := I.1.2.2.2.2.2.2.2.2.1
  rw [hh] at ht
  obtain ⟨sa, hsa⟩ := I.2.1.2.1 _ hstr
  obtain ⟨h0, lv, h1, -⟩ := id I.2.2.2.2.2.2.1
  have hS := I.2.2.2.2.1
  obtain ⟨hP, hD, hhs⟩ := id I.2.2.2.1
  refine vx_throwS (cls := cls) (text := text) (names := ["java/lang/RuntimeException", "java/lang/Exception"]) (ik := ik) (is := is) (ic := ic) (A := A) (sa := sa) I.1.2.1 I.1.2.2.1 I.1.1 I.1.2.2.2.2.2.1 hcls (by decide +kernel) (hts _ w1) (hts _ w2) (by rw [hown]; exact hsa) (fun w hw => hts _ (hat w hw)) hgood I.2.1.2.2.2.2.1 I.2.1.2.2.2.2.2.1 hS
    (h1.1.trans I.1.2.2.2.2.1.symm) d0 d3 d4 d6 d9 (fun x hx => by rw [ht] at hx; cases hx) (by show 2 + 3 < R.frames; omega) (by rw [hT.cats]; show _ + (13 * (2 + 1) + 43) ≤ R.locals; omega) (by omega) (by omega) I.1.2.2.2.2.2.2.2.1 (fun t hal hsz hk => ?_) hS.2.2 (by omega) (by omega)
  refine ⟨⟨h, ws, hQ, ⟨va_P.kept hP (fun j q hq => hk _ (vx_lt hP hq)), hD, hhs⟩, I.2.2.2.2.2.1⟩, Nat.le_trans hS.1 hsz, fun q hq hA => ?_⟩
  rw [hk q (Nat.lt_of_lt_of_le hq hS.1)]
  exact hS.2.1 q hq hA
/-- what a call needs of the callee -/
def tv_lk (k k' : tv_M) (n : Nat) : Prop := tv_hw k' ∈ tc_TB ∧ Cond.initialized k'.1.cls ∈ tc_TB ∧ (k'.1.cls ≠ "java/lang/invoke/MethodHandle" ∧ k'.1.cls ≠ "java/lang/invoke/VarHandle") ∧ (parseMethodDescriptor k'.1.desc).map (fun d => d.parameters.length) = some n ∧ k'.2.2.2.2.2.1 + 1 ≤ k.2.2.2.2.2.1 ∧ 8 + (k'.2.2.1 + 11) + k'.2.2.2.2.2.2 ≤ k.2.2.2.2.2.2
def tv_lkV (k k' : tv_M) (idx n : Nat) : Prop := k'.2.2.2.2.1 = [] ∧ tv_lk k k' n ∧ Cond.methodLink k.1.cls idx k'.1 ∈ tc_TB ∧ Cond.instanceMethod k'.1 ∈ tc_TB ∧ Cond.selects k'.1.cls k'.1 k'.1 ∈ tc_TB
def tv_lkS (k k' : tv_M) (idx n : Nat) : Prop := k'.2.2.2.2.1 = [] ∧ tv_lk k k' n ∧ Cond.methodLink k.1.cls idx k'.1 ∈ tc_TB ∧ Cond.static k'.1 ∈ tc_TB
def tv_lkX (k k' : tv_M) (idx n : Nat) : Prop := k'.2.2.2.2.1 ≠ [] ∧ tv_lk k k' n ∧ Cond.methodLink k.1.cls idx k'.1 ∈ tc_TB ∧ Cond.static k'.1 ∈ tc_TB
def tv_lkN (k k' : tv_M) (idx n : Nat) : Prop := k'.2.2.2.2.1 = [] ∧ tv_lk k k' n ∧ (∃ host, Cond.methodLinkNest k.1.cls idx k'.1 host ∈ tc_TB) ∧ Cond.static k'.1 ∈ tc_TB
def tv_lkI (k k' : tv_M) (idx n : Nat) : Prop := k'.2.2.2.2.1 = [] ∧ tv_lk k k' n ∧ (Cond.methodLink k.1.cls idx k'.1 ∈ tc_TB ∨ ∃ host, Cond.methodLinkNest k.1.cls idx k'.1 host ∈ tc_TB) ∧ Cond.instanceMethod k'.1 ∈ tc_TB ∧ k'.1.name = "<init>" ∧ k'.2.2.2.1 = none
theorem tv_hw0 {k : tv_M} (hh : k.2.2.2.2.1 = []) : tv_hw k = .code k.1 k.2.1 k.2.2.1 k.2.2.2.1 := by
  unfold tv_hw
  rw [hh]
theorem tv_hw1 {k : tv_M} (hh : k.2.2.2.2.1 ≠ []) : tv_hw k = .codeWith k.1 k.2.1 k.2.2.1 k.2.2.2.1 k.2.2.2.2.1 := by
  unfold tv_hw
  split
  · exact absurd (by assumption) hh
  · rfl
theorem tv_tb {args : Array Value} {s : State} {k' : tv_M} (hts : ∀ w ∈ tc_TB, w.before args s = true) (h : tv_hw k' ∈ tc_TB) : ∀ w ∈ tv_hw k' :: tc_TB, ∀ (a' : Array Value) (U : State), s.WarmedH U.vm → w.before a' U = true := by
  intro w hw a' U hW
  have hm : w ∈ tc_TB := by
    rcases List.mem_cons.mp hw with rfl | h1
    · exact h
    · exact h1
  exact tc_wk_at hW (List.mem_filter.mp hm).2 (hts w hm)
theorem tv_pn {y : MethodName} {n : Nat} (h : (parseMethodDescriptor y.desc).map (fun d => d.parameters.length) = some n) : ∀ sig, parseMethodDescriptor y.desc = some sig → n = sig.parameters.length := by
  intro sig hs
  rw [hs] at h
  exact (Option.some.inj h).symm
theorem tv_AA {D : va_G} {ct : Nat → ClassId} {A : Nat → Prop} {ws : va_W} {H H0 : Heap} {locs : List Loc} (hW : tv_W D ct A h ws H) (hS : va_S A H0 H locs) (hA : ∀ q, H0.size ≤ q → A q) : ∀ q, va_A ws H.size q → A q := by
  intro q hq
  rcases hq with ⟨j, x, hj⟩ | hq
  · exact hW.2.1.2 j _ hj
  · exact hA q (Nat.le_trans hS.1 hq)
/-- the callee's start -/
theorem tv_pre {p : Program} {l : Launch} {R : Room} {s : State} {m : MethodId} {args : Array Value} {meth : Method} {cd : Code} {H : Heap} {locs : List Loc} {cells slots mc ms : Nat} {D : va_G} {ct : Nat → ClassId} {A : Nat → Prop} {as0 : List Nat} {ws : va_W} {lsm : Array Slot} {vm : List Value}
    (I : tv_I G k ls h c z p l R s m args meth cd H locs cells slots mc ms D ct A as0 ws lsm) :
    FrameBlind (va_Pc vm (fun U => U.heap.size = H.size ∧ tv_W D ct (fun _ => True) h ws U.heap ∧ tv_S G D ct (va_A ws H.size) U)) ∧ ∀ U : State, U.heap = H → s.WarmedH U.vm → va_Pc vm (fun U => U.heap.size = H.size ∧ tv_W D ct (fun _ => True) h ws U.heap ∧ tv_S G D ct (va_A ws H.size) U) vm.toArray U := by
  refine ⟨fun a U g mk q => ⟨q.1, q.2.1, q.2.2.1, q.2.2.2.calling⟩, fun U hU hW => ⟨rfl, by rw [hU], ?_, I.2.1.call I.2.2.2.2.1 hU hW (tv_AA I.2.2.2.1 I.2.2.2.2.1 I.2.2.1)⟩⟩
  rw [hU]
  exact ⟨I.2.2.2.1.1, I.2.2.2.1.2.1.weaken (fun _ _ _ _ => trivial), I.2.2.2.1.2.2⟩
/-- behind a call -/
theorem tv_run {p : Program} {l : Launch} {e : Env} {R : Room} {s : State} {m : MethodId} {args : Array Value} {below : List Frame} {meth : Method} {cd : Code} {H : Heap} {locs : List Loc} {cells slots mc ms mc' ms' : Nat} {D : va_G} {ct : Nat → ClassId} {A : Nat → Prop} {as0 : List Nat} {ws : va_W} {lsm : Array Slot} {stm rest : List Value} {a : Array Value} {Q' : tv_R → tv_H → Prop}
    (hr : vx_Run p l e R s m args below meth cd H locs cells slots mc' ms' (F0 m pc lsm stm) rest (tv_Qc D ct (va_A ws H.size) (ws.map Prod.fst) Q' a) (tv_XC D ct (va_A ws H.size) (ws.map Prod.fst) Q') (va_A ws H.size))
    (I : tv_I G k ls h (c + mc') (z + ms') p l R s m args meth cd H locs cells slots mc ms D ct A as0 ws lsm) (hT : tv_vs (ws.map Prod.fst) st rest)
    (kk : ∀ v h', Q' (.inl v) h' → tv_Ev G k (pc + 3) ls (v.toList ++ st) h' c z Q) (kx : ∀ E h', Q' (.inr E) h' → tv_Xv G k pc ls h' c z Q E) :
    W p l e R s m args below meth cd H locs cells slots (vx_MQ below (tv_Qc D ct A as0 Q) (tv_XC D ct A as0 Q) args s mc ms A) (F0 m pc lsm stm) := by
  have hAA := tv_AA I.2.2.2.1 I.2.2.2.2.1 I.2.2.1
  obtain ⟨i1, i2, i3, i4, i5, i6, i7, i8, i9, i10⟩ := I
  intro T hTH X
  rcases hr T hTH X with ⟨v, st₀, t, T', L, h0, X', hL, e1, e2, ⟨⟨v', w', h', ws', q1, q2, q3, q4, q5⟩, hF⟩, sg⟩ | ⟨q, st₀, t, T', L, E, ce, h0, X', hL, e1, e2, ⟨⟨h', ws', q3, q4, q5⟩, hF⟩, hce, hcv, hcl, sg⟩
  · cases q1
    obtain ⟨k1, k2, k3⟩ := vx_keep h0 e1 i5 (fun q _ hq => hAA q hq) hAA hL hF
    have I' : tv_I G k ls h' c z p l R s m args meth cd T'.heap (locs ++ L) (cells + mc') (slots + ms') mc ms D ct A as0 ws' lsm :=
      ⟨i1, i2, i3, by rw [e1]; exact ⟨q4.1, q4.2.1.weaken (fun _ _ _ hq => hAA _ hq), q4.2.2⟩, k3, i6.trans q5, i7.mono q5, by omega, by omega, i10⟩
    have hst : tv_vs (ws'.map Prod.fst) (v'.toList ++ st) (v.toList ++ rest) := by
      refine tv_vs.app ?_ (hT.mono q5)
      cases v' with
      | none =>
        cases v with
        | none => trivial
        | some w => exact q2.elim
      | some u =>
        cases v with
        | none => exact q2.elim
        | some w => exact ⟨q2, trivial⟩
    obtain ⟨t2, a1, b1⟩ := kk v' h' q3 p l e R s m args below meth cd T'.heap (locs ++ L) (cells + mc') (slots + ms') mc ms D ct A as0 ws' lsm _ I' hst T' rfl X'
    exact ⟨t2, sg t2 a1, b1⟩
  · obtain ⟨k1, k2, k3⟩ := vx_keep h0 e1 i5 (fun q _ hq => hAA q hq) hAA hL hF
    have I' : tv_I G k ls h' c z p l R s m args meth cd T'.heap (locs ++ L) (cells + mc') (slots + ms') mc ms D ct A as0 ws' lsm :=
      ⟨i1, i2, i3, by rw [e1]; exact ⟨q4.1, q4.2.1.weaken (fun _ _ _ hq => hAA _ hq), q4.2.2⟩, k3, i6.trans q5, i7.mono q5, by omega, by omega, i10⟩
    obtain ⟨t2, a1, b1⟩ := kx E h' q3 p l e R s m args below meth cd T'.heap (locs ++ L) (cells + mc') (slots + ms') mc ms D ct A as0 ws' lsm rest q ce I' (by rw [e1]; exact hce) hcv hcl T' rfl X'
    exact ⟨t2, sg.trans a1, b1⟩
theorem ev_invokevirtual {idx n a ci mc' ms' : Nat} {T : u_T} {N : Nat} {fs vs : List Value} {Q' : tv_R → tv_H → Prop} (k' : tv_M) (hd : decode k.2.1 pc = .ok (.invokevirtual idx, 3)) (hl : tv_lkV k k' idx n) (hn : vs.length = n) (hobj : h[a]? = some (ci, fs)) (hcl : tc_cl[ci]? = some (k'.1.cls, T, N)) (hst : (st.map fun v => v.category).sum ≤ 8)
    (hct : tv_Ct G k' (.ref a :: vs) h mc' ms' Q') (kk : ∀ v h', Q' (.inl v) h' → tv_Ev G k (pc + 3) ls (v.toList ++ st) h' c z Q) (kx : ∀ E h', Q' (.inr E) h' → tv_Xv G k pc ls h' c z Q E) : tv_Ev G k pc ls (vs.reverse ++ .ref a :: st) h (c + mc') (z + ms') Q := by
  intro p l e R s m args below meth cd H locs cells slots mc ms D ct A as0 ws lsm stm I hT
  obtain ⟨b0, e0, rfl, hb0, he0⟩ := hT.split
  obtain ⟨w, rest, rfl, ⟨qa, hqa, rfl⟩, hrest⟩ := he0.cons
  obtain ⟨hh, ⟨l1, l2, l3, l4, l5, l6⟩, l7, l8, l9⟩ := hl
  have hts := I.1.2.2.2.2.2.2.1
  have b1 := I.2.2.2.2.2.2.2
  have r1 := I.1.2.2.2.2.2.2.2.2.2.2.1
  have r2 := I.1.2.2.2.2.2.2.2.2.2.2.2
  have hvm : tv_vs (ws.map Prod.fst) (.ref a :: vs) (.ref qa :: b0.reverse) := ⟨⟨qa, hqa, rfl⟩, by have h2 := hb0.rev; rwa [List.reverse_reverse] at h2⟩
  obtain ⟨x, hx, he⟩ := I.2.2.2.1.at hobj hqa
  obtain ⟨hci, -⟩ := tc_all ci _ T N hcl
  obtain ⟨gs, rfl, -⟩ := he.obj hci
  obtain ⟨h0, lv, h1, -⟩ := id I.2.2.2.2.2.2.1
  have hp := tv_pre (vm := .ref qa :: b0.reverse) I
  have hcode : Cond.code k'.1 k'.2.1 k'.2.2.1 k'.2.2.2.1 ∈ tc_TB := tv_hw0 hh ▸ l1
  refine tv_run (vx_runV (C := k'.1.cls) (b := qa) (As := b0.reverse) (rest := rest) (bytes := k'.2.1) (maxL := k'.2.2.1) (ret := k'.2.2.2.1) ⟨I.1.2.1, I.1.2.2.1, I.1.2.2.2.2.1, I.1.2.2.2.2.2.1, hts⟩ (hct l I.1.1 D ct ws (.ref qa :: b0.reverse) H.size hvm)
    ⟨⟨rfl, rfl, by show k'.2.2.2.2.2.1 + 1 ≤ _; omega, by show _ + k'.2.2.2.2.2.2 ≤ _; omega, tv_tb hts l1, by rw [tv_hw0 hh]; exact List.mem_cons_self, hts _ hcode, hts _ l2, l3, tv_pn l4, hts _ l7⟩, hts _ l8, hts _ l9⟩
    ⟨hp.1, va_recv I.2.1.1 I.2.2.2.1.1 hcl hx, hp.2⟩ rfl (by rw [List.length_reverse, ← hb0.len, List.length_reverse]; exact hn) h1.1 (by rw [List.reverse_reverse]) (lv_room (by rw [hrest.cats]; exact hst)) hd ⟨by omega, by omega⟩) I hrest kk kx
theorem ev_invokestatic {idx n mc' ms' : Nat} {vs : List Value} {Q' : tv_R → tv_H → Prop} (k' : tv_M) (hd : decode k.2.1 pc = .ok (.invokestatic idx, 3)) (hl : tv_lkS k k' idx n) (hn : vs.length = n) (hst : (st.map fun v => v.category).sum ≤ 8)
    (hct : tv_Ct G k' vs h mc' ms' Q') (kk : ∀ v h', Q' (.inl v) h' → tv_Ev G k (pc + 3) ls (v.toList ++ st) h' c z Q) (kx : ∀ E h', Q' (.inr E) h' → tv_Xv G k pc ls h' c z Q E) : tv_Ev G k pc ls (vs.reverse ++ st) h (c + mc') (z + ms') Q := by
  intro p l e R s m args below meth cd H locs cells slots mc ms D ct A as0 ws lsm stm I hT
  obtain ⟨b0, rest, rfl, hb0, hrest⟩ := hT.split
  obtain ⟨hh, ⟨l1, l2, l3, l4, l5, l6⟩, l7, l8⟩ := hl
  have hts := I.1.2.2.2.2.2.2.1
  have b1 := I.2.2.2.2.2.2.2
  have r1 := I.1.2.2.2.2.2.2.2.2.2.2.1
  have r2 := I.1.2.2.2.2.2.2.2.2.2.2.2
  have hvm : tv_vs (ws.map Prod.fst) vs b0.reverse := by have h2 := hb0.rev; rwa [List.reverse_reverse] at h2
  obtain ⟨h0, lv, h1, -⟩ := id I.2.2.2.2.2.2.1
  have hp := tv_pre (vm := b0.reverse) I
  have hcode : Cond.code k'.1 k'.2.1 k'.2.2.1 k'.2.2.2.1 ∈ tc_TB := tv_hw0 hh ▸ l1
  refine tv_run (vx_runS (As := b0.reverse) (rest := rest) (bytes := k'.2.1) (maxL := k'.2.2.1) (ret := k'.2.2.2.1) ⟨I.1.2.1, I.1.2.2.1, I.1.2.2.2.2.1, I.1.2.2.2.2.2.1, hts⟩ (hct l I.1.1 D ct ws b0.reverse H.size hvm)
    ⟨⟨rfl, rfl, by show k'.2.2.2.2.2.1 + 1 ≤ _; omega, by show _ + k'.2.2.2.2.2.2 ≤ _; omega, tv_tb hts l1, by rw [tv_hw0 hh]; exact List.mem_cons_self, hts _ hcode, hts _ l2, l3, tv_pn l4, hts _ l7⟩, hts _ l8⟩
    hp rfl (by rw [List.length_reverse, ← hb0.len, List.length_reverse]; exact hn) h1.1 (by rw [List.reverse_reverse]) (lv_room (by rw [hrest.cats]; exact hst)) hd ⟨by omega, by omega⟩) I hrest kk kx
theorem ev_invokestaticX {idx n mc' ms' : Nat} {vs : List Value} {Q' : tv_R → tv_H → Prop} (k' : tv_M) (hd : decode k.2.1 pc = .ok (.invokestatic idx, 3)) (hl : tv_lkX k k' idx n) (hn : vs.length = n) (hst : (st.map fun v => v.category).sum ≤ 8)
    (hct : tv_Ct G k' vs h mc' ms' Q') (kk : ∀ v h', Q' (.inl v) h' → tv_Ev G k (pc + 3) ls (v.toList ++ st) h' c z Q) (kx : ∀ E h', Q' (.inr E) h' → tv_Xv G k pc ls h' c z Q E) : tv_Ev G k pc ls (vs.reverse ++ st) h (c + mc') (z + ms') Q := by
  intro p l e R s m args below meth cd H locs cells slots mc ms D ct A as0 ws lsm stm I hT
  obtain ⟨b0, rest, rfl, hb0, hrest⟩ := hT.split
  obtain ⟨hh, ⟨l1, l2, l3, l4, l5, l6⟩, l7, l8⟩ := hl
  have hts := I.1.2.2.2.2.2.2.1
  have b1 := I.2.2.2.2.2.2.2
  have r1 := I.1.2.2.2.2.2.2.2.2.2.2.1
  have r2 := I.1.2.2.2.2.2.2.2.2.2.2.2
  have hvm : tv_vs (ws.map Prod.fst) vs b0.reverse := by have h2 := hb0.rev; rwa [List.reverse_reverse] at h2
  obtain ⟨h0, lv, h1, -⟩ := id I.2.2.2.2.2.2.1
  have hp := tv_pre (vm := b0.reverse) I
  have hcode : Cond.codeWith k'.1 k'.2.1 k'.2.2.1 k'.2.2.2.1 k'.2.2.2.2.1 ∈ tc_TB := tv_hw1 hh ▸ l1
  refine tv_run (vx_runSX (As := b0.reverse) (rest := rest) (bytes := k'.2.1) (maxL := k'.2.2.1) (ret := k'.2.2.2.1) (hh := k'.2.2.2.2.1) ⟨I.1.2.1, I.1.2.2.1, I.1.2.2.2.2.1, I.1.2.2.2.2.2.1, hts⟩ (hct l I.1.1 D ct ws b0.reverse H.size hvm)
    ⟨⟨rfl, rfl, by show k'.2.2.2.2.2.1 + 1 ≤ _; omega, by show _ + k'.2.2.2.2.2.2 ≤ _; omega, tv_tb hts l1, by rw [tv_hw1 hh]; exact List.mem_cons_self⟩, hts _ hcode, hts _ l2, l3, tv_pn l4, hts _ l7, hts _ l8⟩
    hp rfl (by rw [List.length_reverse, ← hb0.len, List.length_reverse]; exact hn) h1.1 (by rw [List.reverse_reverse]) (lv_room (by rw [hrest.cats]; exact hst)) hd ⟨by omega, by omega⟩) I hrest kk kx
/-- a contract that lets nothing be thrown, in the kit's own form -/
theorem tv_Ct.met {k' : tv_M} {vs : List Value} {mc' ms' : Nat} {Q' : tv_R → tv_H → Prop} (hct : tv_Ct G k' vs h mc' ms' Q') (hn : ∀ E h', ¬ Q' (.inr E) h') {l : Launch} (hl : l.stackTraces = false) {D : va_G} {ct : Nat → ClassId} {ws : va_W} {vm : List Value} {sz : Nat} (hvm : tv_vs (ws.map Prod.fst) vs vm) :
    Met l k'.1 (tv_hw k' :: tc_TB) (tv_rm k' mc' ms') (va_Pc vm (fun U => U.heap.size = sz ∧ tv_W D ct (fun _ => True) h ws U.heap ∧ tv_S G D ct (va_A ws sz) U)) (tv_Qc D ct (va_A ws sz) (ws.map Prod.fst) Q') mc' ms' (va_A ws sz) := by
  intro p e ha hc hk s m args below hf happ hP hK
  obtain ⟨n, o, a1, a2, a3, hq⟩ := hct l hl D ct ws vm sz hvm p e ha hc hk s m args below hf happ hP hK
  rcases hq with hq | ⟨q, -, E, ce, L, ⟨⟨h', ws', hq, -⟩, -⟩, -⟩
  · exact ⟨n, o, a1, a2, a3, hq⟩
  · exact absurd hq (hn E h')
theorem ev_invokestaticN {idx n mc' ms' : Nat} {vs : List Value} {Q' : tv_R → tv_H → Prop} (k' : tv_M) (hd : decode k.2.1 pc = .ok (.invokestatic idx, 3)) (hl : tv_lkN k k' idx n) (hn : vs.length = n) (hst : (st.map fun v => v.category).sum ≤ 8)
    (hct : tv_Ct G k' vs h mc' ms' Q') (hx : ∀ E h', ¬ Q' (.inr E) h') (kk : ∀ v h', Q' (.inl v) h' → tv_Ev G k (pc + 3) ls (v.toList ++ st) h' c z Q) : tv_Ev G k pc ls (vs.reverse ++ st) h (c + mc') (z + ms') Q := by
  intro p l e R s m args below meth cd H locs cells slots mc ms D ct A as0 ws lsm stm I hT
  obtain ⟨b0, rest, rfl, hb0, hrest⟩ := hT.split
  obtain ⟨hh, ⟨l1, l2, l3, l4, l5, l6⟩, ⟨host, l7⟩, l8⟩ := hl
  have hts := I.1.2.2.2.2.2.2.1
  have b1 := I.2.2.2.2.2.2.2
  have r1 := I.1.2.2.2.2.2.2.2.2.2.2.1
  have r2 := I.1.2.2.2.2.2.2.2.2.2.2.2
  have hvm : tv_vs (ws.map Prod.fst) vs b0.reverse := by have h2 := hb0.rev; rwa [List.reverse_reverse] at h2
  obtain ⟨h0, lv, h1, -⟩ := id I.2.2.2.2.2.2.1
  have hp := tv_pre (vm := b0.reverse) I
  have hcode : Cond.code k'.1 k'.2.1 k'.2.2.1 k'.2.2.2.1 ∈ tc_TB := tv_hw0 hh ▸ l1
  have hr := va_runSN (host := host) (As := b0.reverse) (rest := rest) (bytes := k'.2.1) (maxL := k'.2.2.1) (ret := k'.2.2.2.1) (H := H) (locs := locs) (cells := cells) (slots := slots) (R := R) (below := below) (meth := meth) (p := p) (e := e) (g := F0 m pc lsm (b0 ++ rest)) ⟨I.1.2.1, I.1.2.2.1, I.1.2.2.2.2.1, I.1.2.2.2.2.2.1, hts⟩ (hct.met hx I.1.1 (D := D) (ct := ct) (ws := ws) (vm := b0.reverse) (sz := H.size) hvm)
    ⟨⟨⟨rfl, rfl, by show k'.2.2.2.2.2.1 + 1 ≤ _; omega, by show _ + k'.2.2.2.2.2.2 ≤ _; omega, tv_tb hts l1, by rw [tv_hw0 hh]; exact List.mem_cons_self⟩, hts _ hcode, hts _ l2, l3, tv_pn l4, hts _ l7⟩, hts _ l8, trivial⟩
    hp rfl (by rw [List.length_reverse, ← hb0.len, List.length_reverse]; exact hn) h1.1 (by rw [List.reverse_reverse]) (lv_room (by rw [hrest.cats]; exact hst)) hd ⟨by omega, by omega⟩
  exact tv_run (Q' := Q') (fun T hTH X => Or.inl (hr T hTH X)) I hrest kk (fun E h' hq => absurd hq (hx E h'))
theorem ev_invokespecial {idx n a mc' ms' : Nat} {vs : List Value} {Q' : tv_R → tv_H → Prop} (k' : tv_M) (hd : decode k.2.1 pc = .ok (.invokespecial idx, 3)) (hl : tv_lkI k k' idx n) (hn : vs.length = n) (hst : (st.map fun v => v.category).sum ≤ 8)
    (hct : tv_Ct G k' (.ref a :: vs) h mc' ms' Q') (hx : ∀ E h', ¬ Q' (.inr E) h') (kk : ∀ v h', Q' (.inl v) h' → tv_Ev G k (pc + 3) ls (v.toList ++ st) h' c z Q) : tv_Ev G k pc ls (vs.reverse ++ .ref a :: st) h (c + mc') (z + ms') Q := by
  intro p l e R s m args below meth cd H locs cells slots mc ms D ct A as0 ws lsm stm I hT
  obtain ⟨b0, e0, rfl, hb0, he0⟩ := hT.split
  obtain ⟨w, rest, rfl, ⟨qa, hqa, rfl⟩, hrest⟩ := he0.cons
  obtain ⟨hh, ⟨l1, l2, l3, l4, l5, l6⟩, l7, l8, l9, l10⟩ := hl
  have hts := I.1.2.2.2.2.2.2.1
  have b1 := I.2.2.2.2.2.2.2
  have r1 := I.1.2.2.2.2.2.2.2.2.2.2.1
  have r2 := I.1.2.2.2.2.2.2.2.2.2.2.2
  have hvm : tv_vs (ws.map Prod.fst) (.ref a :: vs) (.ref qa :: b0.reverse) := ⟨⟨qa, hqa, rfl⟩, by have h2 := hb0.rev; rwa [List.reverse_reverse] at h2⟩
  obtain ⟨h0, lv, h1, -⟩ := id I.2.2.2.2.2.2.1
  have hp := tv_pre (vm := .ref qa :: b0.reverse) I
  have hcode : Cond.code k'.1 k'.2.1 k'.2.2.1 none ∈ tc_TB := by
    have h2 := l1
    rw [tv_hw0 hh, l10] at h2
    exact h2
  have hcode2 : Cond.code k'.1 k'.2.1 k'.2.2.1 none ∈ tv_hw k' :: tc_TB := List.mem_cons_of_mem _ hcode
  have hM := hct.met hx I.1.1 (D := D) (ct := ct) (ws := ws) (vm := .ref qa :: b0.reverse) (sz := H.size) hvm
  rcases l7 with l7 | ⟨host, l7⟩
  · have hr := va_runI (b := qa) (As := b0.reverse) (rest := rest) (bytes := k'.2.1) (maxL := k'.2.2.1) (H := H) (locs := locs) (cells := cells) (slots := slots) (R := R) (below := below) (meth := meth) (p := p) (e := e) (g := F0 m pc lsm (b0 ++ .ref qa :: rest)) ⟨I.1.2.1, I.1.2.2.1, I.1.2.2.2.2.1, I.1.2.2.2.2.2.1, hts⟩ hM
      ⟨⟨rfl, rfl, by show k'.2.2.2.2.2.1 + 1 ≤ _; omega, by show _ + k'.2.2.2.2.2.2 ≤ _; omega, tv_tb hts l1, hcode2, hts _ hcode, hts _ l2, l3, tv_pn l4, hts _ l7⟩, l9, hts _ l8⟩
      hp rfl (by rw [List.length_reverse, ← hb0.len, List.length_reverse]; exact hn) h1.1 (by rw [List.reverse_reverse]) (lv_room (by rw [hrest.cats]; exact hst)) hd ⟨by omega, by omega⟩
    exact tv_run (Q' := Q') (fun T hTH X => Or.inl (hr T hTH X)) I hrest kk (fun E h' hq => absurd hq (hx E h'))
  · have hr := va_runIN (host := host) (b := qa) (As := b0.reverse) (rest := rest) (bytes := k'.2.1) (maxL := k'.2.2.1) (H := H) (locs := locs) (cells := cells) (slots := slots) (R := R) (below := below) (meth := meth) (p := p) (e := e) (g := F0 m pc lsm (b0 ++ .ref qa :: rest)) ⟨I.1.2.1, I.1.2.2.1, I.1.2.2.2.2.1, I.1.2.2.2.2.2.1, hts⟩ hM
      ⟨⟨⟨rfl, rfl, by show k'.2.2.2.2.2.1 + 1 ≤ _; omega, by show _ + k'.2.2.2.2.2.2 ≤ _; omega, tv_tb hts l1, hcode2⟩, hts _ hcode, hts _ l2, l3, tv_pn l4, hts _ l7⟩, l9, hts _ l8⟩
      hp rfl (by rw [List.length_reverse, ← hb0.len, List.length_reverse]; exact hn) h1.1 (by rw [List.reverse_reverse]) (lv_room (by rw [hrest.cats]; exact hst)) hd ⟨by omega, by omega⟩
    exact tv_run (Q' := Q') (fun T hTH X => Or.inl (hr T hTH X)) I hrest kk (fun E h' hq => absurd hq (hx E h'))
/-- Object() -/
theorem ev_objinit {idx a : Nat} (hd : decode k.2.1 pc = .ok (.invokespecial idx, 3)) (w1 : Cond.methodLink k.1.cls idx objectInit ∈ tc_TB) (w2 : Cond.instanceMethod objectInit ∈ tc_TB) (w3 : Cond.code objectInit ⟨#[0xb1]⟩ 1 none ∈ tc_TB) (hfr : 1 ≤ k.2.2.2.2.2.1) (hlc : (st.map fun v => v.category).sum + 12 ≤ k.2.2.2.2.2.2)
    (kk : tv_Ev G k (pc + 3) ls st h c z Q) : tv_Ev G k pc ls (.ref a :: st) h c z Q := by
  intro p l e R s m args below meth cd H locs cells slots mc ms D ct A as0 ws lsm stm I hT
  obtain ⟨w, rest, rfl, ⟨qa, hqa, rfl⟩, hrest⟩ := hT.cons
  have hts := I.1.2.2.2.2.2.2.1
  have r1 := I.1.2.2.2.2.2.2.2.2.2.2.1
  have r2 := I.1.2.2.2.2.2.2.2.2.2.2.2
  obtain ⟨h0, lv, h1, -⟩ := id I.2.2.2.2.2.2.1
  exact W.objInit I.1.2.1 I.1.2.2.1 I.1.2.2.2.2.2.1 (hts _ w1) (hts _ w2) (hts _ w3) rfl (h1.1.trans I.1.2.2.2.2.1.symm) rfl hd (by omega) (by show 2 * 0 + _ + 12 ≤ _; rw [hrest.cats]; omega) (kk p l e R s m args below meth cd H locs cells slots mc ms D ct A as0 ws lsm _ I hrest)
end
end
section
/-! a contract out of a walk; System.arraycopy of bytes, Math.max; a law's start -/
theorem tv_args_mem {as : List Nat} : ∀ {vs ws : List Value} (j : Nat), tv_vs as vs ws → (∀ v ∈ vs, v.category = 1) → ∀ i v, vs[i]? = some v → ∃ w, tv_v as v w ∧ w.category = 1 ∧ (j + i, w) ∈ lv_args j ws
  | [], [], j, _, _, i, v, hi => by simp at hi
  | a :: vs, b :: ws, j, h, hc, i, v, hi => by
    have hb : b.category = 1 := h.1.cat.trans (hc a List.mem_cons_self)
    cases i with
    | zero =>
      simp at hi
      subst hi
      exact ⟨b, h.1, hb, List.mem_cons_self⟩
    | succ i =>
      rw [List.getElem?_cons_succ] at hi
      obtain ⟨w, h1, h2, h3⟩ := tv_args_mem (j + 1) h.2 (fun v hv => hc v (List.mem_cons_of_mem _ hv)) i v hi
      refine ⟨w, h1, h2, ?_⟩
      show (j + (i + 1), w) ∈ (j, b) :: lv_args (if b.category = 2 then j + 2 else j + 1) ws
      rw [if_neg (by rw [hb]; decide)]
      refine List.mem_cons_of_mem _ ?_
      rw [show j + (i + 1) = j + 1 + i by omega]
      exact h3
theorem tv_sl_len {as : List Nat} : ∀ {vs ws : List Value}, tv_vs as vs ws → (∀ v ∈ vs, v.category = 1) → (lg_sl ws).length = vs.length
  | [], [], _, _ => rfl
  | a :: vs, b :: ws, h, hc => by
    have hb : b.category = 1 := h.1.cat.trans (hc a List.mem_cons_self)
    have ih := tv_sl_len h.2 (fun v hv => hc v (List.mem_cons_of_mem _ hv))
    unfold lg_sl at ih ⊢
    rw [List.flatMap_cons, List.length_append, ih, if_neg (by rw [hb]; decide)]
    simp; omega
theorem tv_L.entry {as : List Nat} {vs ws : List Value} {n : Nat} (h : tv_vs as vs ws) (hc : ∀ v ∈ vs, v.category = 1) (hn : vs.length ≤ n) : tv_L as (vs.map some ++ List.replicate (n - vs.length) none) ((lg_sl ws ++ List.replicate (n - (lg_sl ws).length) Slot.unset).toArray) n := by
  refine ⟨by simp; omega, lv_args 0 ws, lv_entry ws (by rw [tv_sl_len h hc]; exact hn), fun i v hi => ?_⟩
  rw [List.getElem?_append] at hi
  split at hi
  · rw [List.getElem?_map] at hi
    cases hv : vs[i]? with
    | none => rw [hv] at hi; cases hi
    | some u =>
      rw [hv] at hi
      have hi : u = v := Option.some.inj (Option.some.inj hi)
      subst hi
      have h1 := tv_args_mem 0 h hc i u hv
      rw [Nat.zero_add] at h1
      exact h1
  · rw [List.getElem?_replicate] at hi
    split at hi <;> cases hi
section
variable {G : tv_G} {k : tv_M} {pc : Nat} {ls : List (Option Value)} {st : List Value} {h : tv_H} {c z : Nat} {Q : tv_R → tv_H → Prop}
theorem tv_ct {vs : List Value} {mc ms : Nat} (hh : k.2.2.2.2.1 = []) (hpl : plainName k.1.cls = true) (hc : ∀ v ∈ vs, v.category = 1) (hn : vs.length ≤ k.2.2.1) (hev : tv_Ev G k 0 (vs.map some ++ List.replicate (k.2.2.1 - vs.length) none) [] h mc ms Q) : tv_Ct G k vs h mc ms Q := by
  intro l hl D ct ws vm sz hvm
  refine vx_ofW (cc := k.2.1) (maxL := k.2.2.1) (ret := k.2.2.2.1) hpl (by rw [tv_hw0 hh]) ?_
  intro p e s m args below meth cd s₁ B hml ht hv
  obtain ⟨rfl, hsz, hW, hS⟩ := hv
  subst hsz
  have hts := atoms_spec (ws := tv_hw k :: tc_TB) B.pre
  rw [lg_entry_eq]
  refine hev p l e _ s m _ below meth cd s.heap [] 0 0 mc ms D ct (va_A ws s.heap.size) (ws.map Prod.fst) ws _ [] ⟨⟨hl, B.exec, B.bytes, B.returns, hml, findClass_of_methodNamed B.named, fun w hw => hts w (List.mem_cons_of_mem _ hw), B.notSynchronized, ?_, (name_of_methodNamed B.named B.method).1, Nat.le_refl _, Nat.le_refl _⟩, hS, fun q hq => Or.inr hq, ⟨hW.1, hW.2.1.self, hW.2.2⟩, va_S.rf, List.prefix_refl _, tv_L.entry hvm hc hn, by omega, by omega, Nat.le_refl _, Nat.le_refl _⟩ trivial
  rw [hh]
  exact List.eq_nil_iff_forall_not_mem.mpr (fun x hx => ht x hx)
theorem tv_ctH {vs : List Value} {mc ms : Nat} (hh : k.2.2.2.2.1 ≠ []) (hpl : plainName k.1.cls = true) (hc : ∀ v ∈ vs, v.category = 1) (hn : vs.length ≤ k.2.2.1) (hev : tv_Ev G k 0 (vs.map some ++ List.replicate (k.2.2.1 - vs.length) none) [] h mc ms Q) : tv_Ct G k vs h mc ms Q := by
  intro l hl D ct ws vm sz hvm
  refine vx_ofWH (cc := k.2.1) (maxL := k.2.2.1) (ret := k.2.2.2.1) (hh := k.2.2.2.2.1) hpl (by rw [tv_hw1 hh]) ?_
  intro p e s m args below meth cd s₁ B hml hv
  obtain ⟨rfl, hsz, hW, hS⟩ := hv
  subst hsz
  have hts := atoms_spec (ws := tv_hw k :: tc_TB) B.pre
  rw [lg_entry_eq]
  refine hev p l e _ s m _ below meth cd s.heap [] 0 0 mc ms D ct (va_A ws s.heap.size) (ws.map Prod.fst) ws _ [] ⟨⟨hl, B.exec, B.bytes, B.returns, hml, findClass_of_methodNamed B.named, fun w hw => hts w (List.mem_cons_of_mem _ hw), B.notSynchronized, ?_, (name_of_methodNamed B.named B.method).1, Nat.le_refl _, Nat.le_refl _⟩, hS, fun q hq => Or.inr hq, ⟨hW.1, hW.2.1.self, hW.2.2⟩, va_S.rf, List.prefix_refl _, tv_L.entry hvm hc hn, by omega, by omega, Nat.le_refl _, Nat.le_refl _⟩ trivial
  have h1 := hts _ (List.mem_cons_self (a := tv_hw k) (l := tc_TB))
  rw [tv_hw1 hh] at h1
  exact vx_table (x := k.1) B h1
theorem ct_post {vs : List Value} {mc ms : Nat} {Q' : tv_R → tv_H → Prop} (hQ : ∀ r h', Q' r h' → Q r h') (hct : tv_Ct G k vs h mc ms Q') : tv_Ct G k vs h mc ms Q := by
  intro l hl D ct ws vm sz hvm p e ha hc hk s m args below hf happ hP hK
  obtain ⟨n, o, a1, a2, a3, b3⟩ := hct l hl D ct ws vm sz hvm p e ha hc hk s m args below hf happ hP hK
  refine ⟨n, o, a1, a2, a3, ?_⟩
  rcases b3 with ⟨⟨⟨v, w, h', ws', e1, e2, e3, e4⟩, e5⟩, e6⟩ | ⟨q, e0, E, ce, L, ⟨⟨h', ws', e1, e2⟩, e3⟩, e4⟩
  · exact Or.inl ⟨⟨⟨v, w, h', ws', e1, e2, hQ _ _ e3, e4⟩, e5⟩, e6⟩
  · exact Or.inr ⟨q, e0, E, ce, L, ⟨⟨h', ws', hQ _ _ e1, e2⟩, e3⟩, e4⟩
/-- Math.max -/
theorem ev_max {idx : Nat} {x y : Int32} (hd : decode k.2.1 pc = .ok (.invokestatic idx, 3)) (w1 : Cond.methodLink k.1.cls idx Lib.Math.max.name ∈ tc_TB) (w2 : Cond.static Lib.Math.max.name ∈ tc_TB) (w3 : Cond.initialized "java/lang/Math" ∈ tc_TB) (w4 : Cond.code Lib.Math.max.name Lib.Math.max.code 2 (some .int) ∈ tc_TB) (hfr : 1 ≤ k.2.2.2.2.2.1) (hlc : (st.map fun v => v.category).sum + 13 ≤ k.2.2.2.2.2.2)
    (kk : tv_Ev G k (pc + 3) ls (.int (if x < y then y else x) :: st) h c z Q) : tv_Ev G k pc ls (.int y :: .int x :: st) h c z Q := by
  intro p l e R s m args below meth cd H locs cells slots mc ms D ct A as0 ws lsm stm I hT
  obtain ⟨w1', s1, rfl, e1, hR⟩ := hT.cons
  obtain ⟨w2', s2, rfl, e2, hR2⟩ := hR.cons
  have e1 : w1' = .int y := e1
  have e2 : w2' = .int x := e2
  subst e1; subst e2
  have hts := I.1.2.2.2.2.2.2.1
  have b1 := I.2.2.2.2.2.2.2
  have r1 := I.1.2.2.2.2.2.2.2.2.2.2.1
  have r2 := I.1.2.2.2.2.2.2.2.2.2.2.2
  obtain ⟨h0, lv, h1, -⟩ := id I.2.2.2.2.2.2.1
  exact va_mmax I.1.2.1 I.1.2.2.1 (I.1.2.2.2.2.1.trans h1.1.symm) I.1.2.2.2.2.2.1 (hts _ w1) (hts _ w2) (hts _ w3) (hts _ w4) (by omega) (by rw [hR2.cats]; omega) (by omega) (by omega) hd (kk p l e R s m args below meth cd H locs cells slots mc ms D ct A as0 ws lsm _ I ⟨rfl, hR2⟩)
/-- n values of fs from sp on, into gs from dp on -/
def tv_cpy (fs gs : List Value) (sp dp n : Nat) : List Value := gs.take dp ++ (fs.drop sp).take n ++ gs.drop (dp + n)
/-- System.arraycopy of bytes -/
theorem ev_copyb {idx a b : Nat} {fs gs : List Value} {isp idp inn : Int32} (sp dp n : Nat) (hd : decode k.2.1 pc = .ok (.invokestatic idx, 3)) (w1 : Cond.methodLink k.1.cls idx arraycopyName ∈ tc_TB) (w2 : Cond.native arraycopyName ∈ tc_TB) (w3 : Cond.static arraycopyName ∈ tc_TB) (w4 : Cond.initialized "java/lang/System" ∈ tc_TB)
    (ha : h[a]? = some (100, fs)) (hb : h[b]? = some (100, gs)) (h1 : isp = nI sp) (h2 : idp = nI dp) (h3 : inn = nI n) (h4 : sp + n ≤ fs.length) (h5 : dp + n ≤ gs.length) (hl1 : fs.length < 2 ^ 31) (hl2 : gs.length < 2 ^ 31) (hfit : ∀ v ∈ fs, fits .byte v = true)
    (hfr : 1 ≤ k.2.2.2.2.2.1) (hlc : (st.map fun v => v.category).sum + 18 ≤ k.2.2.2.2.2.2) (kk : tv_Ev G k (pc + 3) ls st (h.set b (100, tv_cpy fs gs sp dp n)) c z Q) : tv_Ev G k pc ls (.int inn :: .int idp :: .ref b :: .int isp :: .ref a :: st) h c z Q := by
  intro p l e R s m args below meth cd H locs cells slots mc ms D ct A as0 ws lsm stm I hT
  obtain ⟨x1, s1, rfl, e1, hR1⟩ := hT.cons
  obtain ⟨x2, s2, rfl, e2, hR2⟩ := hR1.cons
  obtain ⟨x3, s3, rfl, ⟨qb, hqb, rfl⟩, hR3⟩ := hR2.cons
  obtain ⟨x4, s4, rfl, e4, hR4⟩ := hR3.cons
  obtain ⟨x5, s5, rfl, ⟨qa, hqa, rfl⟩, hR5⟩ := hR4.cons
  have e1 : x1 = .int inn := e1
  have e2 : x2 = .int idp := e2
  have e4 : x4 = .int isp := e4
  subst e1; subst e2; subst e4; subst h1; subst h2; subst h3
  have hts := I.1.2.2.2.2.2.2.1
  have r1 := I.1.2.2.2.2.2.2.2.2.2.2.1
  have r2 := I.1.2.2.2.2.2.2.2.2.2.2.2
  obtain ⟨h0, lv, hlv, -⟩ := id I.2.2.2.2.2.2.1
  obtain ⟨xa, hxa, hea⟩ := I.2.2.2.1.at ha hqa
  obtain ⟨f, rfl, hf⟩ := tv_e.ints (t := 0) hea (by decide)
  obtain ⟨xb, hxb, heb⟩ := I.2.2.2.1.at hb hqb
  obtain ⟨g, rfl, hg⟩ := tv_e.ints (t := 0) heb (by decide)
  have c1 : (nI sp).toNatClampNeg = sp := nI_clamp (by omega)
  have c2 : (nI dp).toNatClampNeg = dp := nI_clamp (by omega)
  have c3 : (nI n).toNatClampNeg = n := nI_clamp (by omega)
  refine va_copyi I.1.2.1 I.1.2.2.1 (I.1.2.2.2.2.1.trans hlv.1.symm) I.1.2.2.2.2.2.1 (hts _ w1) (hts _ w2) (hts _ w3) (hts _ w4) I.2.1.1 I.2.2.2.1.1 I.2.2.2.1.2.1 I.2.2.2.2.1 a b 0 0 hxa hxb rfl rfl rfl (nI_pos (by omega)) (nI_pos (by omega)) (nI_pos (by omega)) (by rw [c1, c3]; exact h4) (by rw [c2, c3]; exact h5) (fun i hi => ?_) (by omega) (by rw [hR5.cats]; show _ + (7 + 11) ≤ _; omega) hd (fun H1 locs1 hP hD hS => ?_)
  · rw [c3] at hi
    rw [c1]
    exact hfit _ (List.mem_of_getElem? (hf (sp + i) (by omega)))
  · rw [c1, c2, c3] at hP hD
    have he' : tv_e (ws.map Prod.fst) ct (100, tv_cpy fs gs sp dp n) (.inl (ct 0, gs.length, .inl (va_cpy f g sp dp n))) := by
      refine ⟨0, rfl, by decide, rfl, ?_, fun i hi => ?_⟩
      · simp [tv_cpy]; omega
      · show (tv_cpy fs gs sp dp n)[i]? = _
        unfold tv_cpy
        by_cases q1 : i < dp
        · rw [List.append_assoc, List.getElem?_append_left (by simp; omega), List.getElem?_take_of_lt q1, hg i hi, pk_cpy_out (Or.inl q1)]
        · by_cases q2 : i < dp + n
          · rw [List.getElem?_append_left (by simp; omega), List.getElem?_append_right (by simp; omega), List.getElem?_take_of_lt (by simp; omega), List.getElem?_drop, pk_cpy_in (by omega) q2]
            rw [show (gs.take dp).length = dp by simp; omega]
            exact hf _ (by omega)
          · rw [List.getElem?_append_right (by simp; omega), List.getElem?_drop, pk_cpy_out (Or.inr (by omega))]
            rw [show dp + n + (i - (gs.take dp ++ (fs.drop sp).take n).length) = i by simp; omega]
            exact hg i hi
    exact kk p l e R s m args below meth cd H1 locs1 cells slots mc ms D ct A as0 _ lsm _ (I.heap hP hD hS (tv_fst_set hxb) (tv_hs.set he' I.2.2.2.1.2.2)) (by rw [tv_fst_set hxb]; exact hR5)
end
end
section
/-! the methods; by program (wip/tools/gen10.py) -/
def mm_En_init : tv_M := (⟨"TreeChanges$Entry", "<init>", "()V"⟩, prog_2_method_1_code, 1, none, [], 2, 40)
def mm_En_begin : tv_M := (⟨"TreeChanges$Entry", "begin", "(LTreeChanges$Path;I)V"⟩, prog_2_method_2_code, 3, none, [], 2, 47)
def mm_En_append : tv_M := (⟨"TreeChanges$Entry", "append", "(I)V"⟩, prog_2_method_3_code, 2, none, [], 0, 0)
def mm_En_appendWord : tv_M := (⟨"TreeChanges$Entry", "appendWord", "(I)V"⟩, prog_2_method_4_code, 4, none, [], 1, 21)
def mm_En_become : tv_M := (⟨"TreeChanges$Entry", "become", "(LTreeChanges$Entry;)V"⟩, prog_2_method_5_code, 2, none, [], 2, 47)
def mm_En_byteAt : tv_M := (⟨"TreeChanges$Entry", "byteAt", "(I)I"⟩, prog_2_method_6_code, 2, some (Jvm.ClassFile.FieldType.int), [], 0, 0)
def mm_En_hasLikeContent : tv_M := (⟨"TreeChanges$Entry", "hasLikeContent", "(LTreeChanges$Entry;)Z"⟩, prog_2_method_7_code, 3, some (Jvm.ClassFile.FieldType.boolean), [], 1, 21)
def mm_En_tell : tv_M := (⟨"TreeChanges$Entry", "tell", "(I)I"⟩, prog_2_method_8_code, 2, some (Jvm.ClassFile.FieldType.int), [], 2, 43)
def mm_La_init : tv_M := (⟨"TreeChanges$Layer", "<init>", "()V"⟩, prog_3_method_1_code, 1, none, [], 1, 20)
def mm_La_byteAt : tv_M := (⟨"TreeChanges$Layer", "byteAt", "(I)I"⟩, prog_3_method_2_code, 2, some (Jvm.ClassFile.FieldType.int), [], 0, 0)
def mm_La_append : tv_M := (⟨"TreeChanges$Layer", "append", "(I)V"⟩, prog_3_method_3_code, 2, none, [], 0, 0)
def mm_La_writeItem : tv_M := (⟨"TreeChanges$Layer", "writeItem", "(ILTreeChanges$Entry;)V"⟩, prog_3_method_4_code, 5, none, [], 1, 21)
def mm_La_readItem : tv_M := (⟨"TreeChanges$Layer", "readItem", "(ILTreeChanges$Entry;)I"⟩, prog_3_method_5_code, 7, some (Jvm.ClassFile.FieldType.int), [], 1, 21)
def mm_La_tell : tv_M := (⟨"TreeChanges$Layer", "tell", "(LTreeChanges$Tree;LTreeChanges$Tree;)V"⟩, prog_3_method_6_code, 8, none, [], 5, 117)
def mm_La_orderOfRows : tv_M := (⟨"TreeChanges$Layer", "orderOfRows", "(LTreeChanges$Tree;ILTreeChanges$Tree;I)I"⟩, prog_3_method_7_code, 5, some (Jvm.ClassFile.FieldType.int), [], 2, 45)
def mm_La_tellKept : tv_M := (⟨"TreeChanges$Layer", "tellKept", "(LTreeChanges$Entry;LTreeChanges$Entry;Z)V"⟩, prog_3_method_8_code, 4, none, [], 2, 45)
def mm_La_tellGone : tv_M := (⟨"TreeChanges$Layer", "tellGone", "(LTreeChanges$Tree;ILTreeChanges$Tree;I)V"⟩, prog_3_method_9_code, 6, none, [], 4, 92)
def mm_La_isEmptied : tv_M := (⟨"TreeChanges$Layer", "isEmptied", "(LTreeChanges$Tree;ILTreeChanges$Tree;I)Z"⟩, prog_3_method_10_code, 8, some (Jvm.ClassFile.FieldType.boolean), [], 4, 90)
def mm_Pa_init : tv_M := (⟨"TreeChanges$Path", "<init>", "()V"⟩, prog_4_method_1_code, 1, none, [], 1, 20)
def mm_Pa_isNone : tv_M := (⟨"TreeChanges$Path", "isNone", "()Z"⟩, prog_4_method_2_code, 1, some (Jvm.ClassFile.FieldType.boolean), [], 0, 0)
def mm_Pa_clear : tv_M := (⟨"TreeChanges$Path", "clear", "()V"⟩, prog_4_method_3_code, 1, none, [], 0, 0)
def mm_Pa_append : tv_M := (⟨"TreeChanges$Path", "append", "(I)V"⟩, prog_4_method_4_code, 2, none, [], 0, 0)
def mm_Pa_become : tv_M := (⟨"TreeChanges$Path", "become", "(LTreeChanges$Path;)V"⟩, prog_4_method_5_code, 2, none, [], 1, 26)
def mm_Pa_readSigns : tv_M := (⟨"TreeChanges$Path", "readSigns", "(III)Z"⟩, prog_4_method_6_code, 4, some (Jvm.ClassFile.FieldType.boolean), [], 3, 66)
def mm_Pa_appendWord : tv_M := (⟨"TreeChanges$Path", "appendWord", "(I)V"⟩, prog_4_method_7_code, 4, none, [], 1, 21)
def mm_Pa_isWellFormed : tv_M := (⟨"TreeChanges$Path", "isWellFormed", "()Z"⟩, prog_4_method_8_code, 4, some (Jvm.ClassFile.FieldType.boolean), [], 2, 43)
def mm_Pa_isNameSign : tv_M := (⟨"TreeChanges$Path", "isNameSign", "(I)Z"⟩, prog_4_method_9_code, 1, some (Jvm.ClassFile.FieldType.boolean), [], 0, 0)
def mm_Pa_signAt : tv_M := (⟨"TreeChanges$Path", "signAt", "(I)I"⟩, prog_4_method_10_code, 2, some (Jvm.ClassFile.FieldType.int), [], 0, 0)
def mm_Pa_names : tv_M := (⟨"TreeChanges$Path", "names", "()I"⟩, prog_4_method_11_code, 3, some (Jvm.ClassFile.FieldType.int), [], 1, 21)
def mm_Pa_shorter : tv_M := (⟨"TreeChanges$Path", "shorter", "()I"⟩, prog_4_method_12_code, 2, some (Jvm.ClassFile.FieldType.int), [], 1, 21)
def mm_Pa_order : tv_M := (⟨"TreeChanges$Path", "order", "(LTreeChanges$Path;I)I"⟩, prog_4_method_13_code, 5, some (Jvm.ClassFile.FieldType.int), [], 1, 21)
def mm_Pa_isAt : tv_M := (⟨"TreeChanges$Path", "isAt", "(LTreeChanges$Path;)Z"⟩, prog_4_method_14_code, 2, some (Jvm.ClassFile.FieldType.boolean), [], 2, 45)
def mm_Pa_isBelow : tv_M := (⟨"TreeChanges$Path", "isBelow", "(LTreeChanges$Path;)Z"⟩, prog_4_method_15_code, 2, some (Jvm.ClassFile.FieldType.boolean), [], 2, 45)
def mm_Pa_replaceStart : tv_M := (⟨"TreeChanges$Path", "replaceStart", "(ILTreeChanges$Path;)V"⟩, prog_4_method_16_code, 4, none, [], 1, 26)
def mm_Tr_init : tv_M := (⟨"TreeChanges$Tree", "<init>", "()V"⟩, prog_5_method_1_code, 2, none, [], 3, 60)
def mm_Tr_isFull : tv_M := (⟨"TreeChanges$Tree", "isFull", "()Z"⟩, prog_5_method_2_code, 1, some (Jvm.ClassFile.FieldType.boolean), [], 0, 0)
def mm_Tr_find : tv_M := (⟨"TreeChanges$Tree", "find", "(LTreeChanges$Path;)I"⟩, prog_5_method_3_code, 2, some (Jvm.ClassFile.FieldType.int), [], 3, 69)
def mm_Tr_findStart : tv_M := (⟨"TreeChanges$Tree", "findStart", "(LTreeChanges$Path;I)I"⟩, prog_5_method_4_code, 5, some (Jvm.ClassFile.FieldType.int), [], 2, 45)
def mm_Tr_kindOf : tv_M := (⟨"TreeChanges$Tree", "kindOf", "(LTreeChanges$Path;)I"⟩, prog_5_method_5_code, 3, some (Jvm.ClassFile.FieldType.int), [], 4, 90)
def mm_Tr_hasPlaceFor : tv_M := (⟨"TreeChanges$Tree", "hasPlaceFor", "(LTreeChanges$Path;)Z"⟩, prog_5_method_6_code, 4, some (Jvm.ClassFile.FieldType.boolean), [], 3, 69)
def mm_Tr_put : tv_M := (⟨"TreeChanges$Tree", "put", "(LTreeChanges$Entry;)Z"⟩, prog_5_method_7_code, 3, some (Jvm.ClassFile.FieldType.boolean), [], 4, 90)
def mm_Tr_openRow : tv_M := (⟨"TreeChanges$Tree", "openRow", "(LTreeChanges$Path;)I"⟩, prog_5_method_8_code, 2, some (Jvm.ClassFile.FieldType.int), [], 3, 69)
def mm_Tr_sinkRow : tv_M := (⟨"TreeChanges$Tree", "sinkRow", "(I)I"⟩, prog_5_method_9_code, 4, some (Jvm.ClassFile.FieldType.int), [], 2, 45)
def mm_Tr_drop : tv_M := (⟨"TreeChanges$Tree", "drop", "(LTreeChanges$Path;Z)V"⟩, prog_5_method_10_code, 7, none, [], 3, 66)
def mm_Tr_canShift : tv_M := (⟨"TreeChanges$Tree", "canShift", "(LTreeChanges$Path;LTreeChanges$Path;)Z"⟩, prog_5_method_11_code, 3, some (Jvm.ClassFile.FieldType.boolean), [], 4, 92)
def mm_Tr_deepest : tv_M := (⟨"TreeChanges$Tree", "deepest", "(LTreeChanges$Path;)I"⟩, prog_5_method_12_code, 4, some (Jvm.ClassFile.FieldType.int), [], 3, 66)
def mm_Tr_shift : tv_M := (⟨"TreeChanges$Tree", "shift", "(LTreeChanges$Path;LTreeChanges$Path;)V"⟩, prog_5_method_13_code, 5, none, [], 3, 68)
def mm_Tr_become : tv_M := (⟨"TreeChanges$Tree", "become", "(LTreeChanges$Tree;)V"⟩, prog_5_method_14_code, 3, none, [], 3, 68)
def mm_Tr_isLike : tv_M := (⟨"TreeChanges$Tree", "isLike", "(LTreeChanges$Tree;)Z"⟩, prog_5_method_15_code, 5, some (Jvm.ClassFile.FieldType.boolean), [], 3, 66)
def mm_Tr_perform : tv_M := (⟨"TreeChanges$Tree", "perform", "(LTreeChanges$Entry;)Z"⟩, prog_5_method_16_code, 2, some (Jvm.ClassFile.FieldType.boolean), [], 5, 112)
def mm_Tc_init : tv_M := (⟨"TreeChanges", "<init>", "()V"⟩, prog_1_method_1_code, 1, none, [], 4, 81)
def mm_Tc_path : tv_M := (⟨"TreeChanges", "path", "(III)Z"⟩, prog_1_method_2_code, 4, some (Jvm.ClassFile.FieldType.boolean), [], 4, 89)
def mm_Tc_directory : tv_M := (⟨"TreeChanges", "directory", "(I)V"⟩, prog_1_method_3_code, 3, none, [], 7, 112)
def mm_Tc_file : tv_M := (⟨"TreeChanges", "file", "(II)V"⟩, prog_1_method_4_code, 5, none, [], 7, 112)
def mm_Tc_add : tv_M := (⟨"TreeChanges", "add", "(II)V"⟩, prog_1_method_5_code, 5, none, [], 7, 111)
def mm_Tc_remove : tv_M := (⟨"TreeChanges", "remove", "(I)V"⟩, prog_1_method_6_code, 3, none, [], 7, 111)
def mm_Tc_move : tv_M := (⟨"TreeChanges", "move", "(IIII)V"⟩, prog_1_method_7_code, 6, none, [], 7, 114)
def mm_Tc_copy : tv_M := (⟨"TreeChanges", "copy", "(II)V"⟩, prog_1_method_8_code, 4, none, [], 7, 111)
def mm_Tc_changes : tv_M := (⟨"TreeChanges", "changes", "(I)I"⟩, prog_1_method_9_code, 3, some (Jvm.ClassFile.FieldType.int), [], 7, 144)
def mm_Tc_layer : tv_M := (⟨"TreeChanges", "layer", "(I)I"⟩, prog_1_method_10_code, 2, some (Jvm.ClassFile.FieldType.int), [], 6, 90)
def mm_Tc_apply : tv_M := (⟨"TreeChanges", "apply", "(I)V"⟩, prog_1_method_11_code, 5, none, [], 7, 133)
def mm_Tc_same : tv_M := (⟨"TreeChanges", "same", "()Z"⟩, prog_1_method_12_code, 1, some (Jvm.ClassFile.FieldType.boolean), [], 4, 90)
def mm_Tc_entries : tv_M := (⟨"TreeChanges", "entries", "(I)I"⟩, prog_1_method_13_code, 2, some (Jvm.ClassFile.FieldType.int), [], 7, 111)
def mm_Tc_entry : tv_M := (⟨"TreeChanges", "entry", "(III)I"⟩, prog_1_method_14_code, 5, some (Jvm.ClassFile.FieldType.int), [], 7, 111)
def mm_Tc_treeOf : tv_M := (⟨"TreeChanges", "treeOf", "(I)LTreeChanges$Tree;"⟩, prog_1_method_15_code, 2, some ((Jvm.ClassFile.FieldType.object "TreeChanges$Tree")), [], 6, 90)
def mm_Tc_bytesIn : tv_M := (⟨"TreeChanges", "bytesIn", "(I)I"⟩, prog_1_method_16_code, 3, some (Jvm.ClassFile.FieldType.int), [], 1, 21)
def mm_Tc_byteOf : tv_M := (⟨"TreeChanges", "byteOf", "(II)I"⟩, prog_1_method_17_code, 2, some (Jvm.ClassFile.FieldType.int), [], 0, 0)
def mm_Mo_init : tv_M := (⟨"TreeChangesModel", "<init>", "()V"⟩, prog_7_method_1_code, 1, none, [], 1, 20)
def mm_Mo_thrown : tv_M := (⟨"TreeChangesModel", "thrown", "()I"⟩, prog_7_method_2_code, 1, some (Jvm.ClassFile.FieldType.int), [], 0, 0)
def mm_Mo_fails : tv_M := (⟨"TreeChangesModel", "fails", "(ZZZ)Z"⟩, prog_7_method_3_code, 4, some (Jvm.ClassFile.FieldType.boolean), [], 0, 0)
def mm_Mo_isTree : tv_M := (⟨"TreeChangesModel", "isTree", "(I)Z"⟩, prog_7_method_4_code, 1, some (Jvm.ClassFile.FieldType.boolean), [], 0, 0)
def mm_Mo_isLetter : tv_M := (⟨"TreeChangesModel", "isLetter", "(I)Z"⟩, prog_7_method_5_code, 1, some (Jvm.ClassFile.FieldType.boolean), [], 0, 0)
def mm_Mo_byteOf : tv_M := (⟨"TreeChangesModel", "byteOf", "(IIII)I"⟩, prog_7_method_6_code, 5, some (Jvm.ClassFile.FieldType.int), [], 0, 0)
def mm_Mo_lay : tv_M := (⟨"TreeChangesModel", "lay", "(IIII)Z"⟩, prog_7_method_7_code, 11, some (Jvm.ClassFile.FieldType.boolean), [], 1, 24)
def mm_Mo_copyPath : tv_M := (⟨"TreeChangesModel", "copyPath", "(II)V"⟩, prog_7_method_8_code, 4, none, [], 0, 0)
def mm_Mo_order : tv_M := (⟨"TreeChangesModel", "order", "(II)I"⟩, prog_7_method_9_code, 5, some (Jvm.ClassFile.FieldType.int), [], 0, 0)
def mm_Mo_isBelow : tv_M := (⟨"TreeChangesModel", "isBelow", "(II)Z"⟩, prog_7_method_10_code, 5, some (Jvm.ClassFile.FieldType.boolean), [], 0, 0)
def mm_Mo_names : tv_M := (⟨"TreeChangesModel", "names", "(I)I"⟩, prog_7_method_11_code, 4, some (Jvm.ClassFile.FieldType.int), [], 0, 0)
def mm_Mo_shorten : tv_M := (⟨"TreeChangesModel", "shorten", "(I)V"⟩, prog_7_method_12_code, 3, none, [], 1, 23)
def mm_Mo_find : tv_M := (⟨"TreeChangesModel", "find", "(II)I"⟩, prog_7_method_13_code, 5, some (Jvm.ClassFile.FieldType.int), [], 1, 24)
def mm_Mo_isDirectory : tv_M := (⟨"TreeChangesModel", "isDirectory", "(II)Z"⟩, prog_7_method_14_code, 4, some (Jvm.ClassFile.FieldType.boolean), [], 2, 48)
def mm_Mo_mayStand : tv_M := (⟨"TreeChangesModel", "mayStand", "(II)Z"⟩, prog_7_method_15_code, 3, some (Jvm.ClassFile.FieldType.boolean), [], 3, 71)
def mm_Mo_shift : tv_M := (⟨"TreeChangesModel", "shift", "(II)V"⟩, prog_7_method_16_code, 4, none, [], 1, 23)
def mm_Mo_insert : tv_M := (⟨"TreeChangesModel", "insert", "(III)I"⟩, prog_7_method_17_code, 6, some (Jvm.ClassFile.FieldType.int), [], 2, 46)
def mm_Mo_clear : tv_M := (⟨"TreeChangesModel", "clear", "(IIZ)V"⟩, prog_7_method_18_code, 7, none, [], 2, 46)
def mm_Mo_become : tv_M := (⟨"TreeChangesModel", "become", "(II)V"⟩, prog_7_method_19_code, 4, none, [], 2, 46)
def mm_Mo_append : tv_M := (⟨"TreeChangesModel", "append", "(II)V"⟩, prog_7_method_20_code, 5, none, [], 0, 0)
def mm_Mo_many : tv_M := (⟨"TreeChangesModel", "many", "(I)I"⟩, prog_7_method_21_code, 3, some (Jvm.ClassFile.FieldType.int), [], 0, 0)
def mm_Mo_path : tv_M := (⟨"TreeChangesModel", "path", "(III)Z"⟩, prog_7_method_22_code, 5, some (Jvm.ClassFile.FieldType.boolean), [], 2, 54)
def mm_Mo_directory : tv_M := (⟨"TreeChangesModel", "directory", "(I)V"⟩, prog_7_method_23_code, 5, none, [], 4, 93)
def mm_Mo_file : tv_M := (⟨"TreeChangesModel", "file", "(II)V"⟩, prog_7_method_24_code, 6, none, [], 4, 93)
def mm_Mo_add : tv_M := (⟨"TreeChangesModel", "add", "(II)V"⟩, prog_7_method_25_code, 6, none, [], 2, 48)
def mm_Mo_remove : tv_M := (⟨"TreeChangesModel", "remove", "(I)V"⟩, prog_7_method_26_code, 3, none, [], 3, 72)
def mm_Mo_longest : tv_M := (⟨"TreeChangesModel", "longest", "(I)I"⟩, prog_7_method_27_code, 6, some (Jvm.ClassFile.FieldType.int), [], 1, 24)
def mm_Mo_move : tv_M := (⟨"TreeChangesModel", "move", "(IIII)V"⟩, prog_7_method_28_code, 12, none, [], 4, 93)
def mm_Mo_copy : tv_M := (⟨"TreeChangesModel", "copy", "(II)V"⟩, prog_7_method_29_code, 3, none, [], 3, 69)
def mm_Mo_isAlike : tv_M := (⟨"TreeChangesModel", "isAlike", "(II)Z"⟩, prog_7_method_30_code, 5, some (Jvm.ClassFile.FieldType.boolean), [], 0, 0)
def mm_Mo_isEmptied : tv_M := (⟨"TreeChangesModel", "isEmptied", "(II)Z"⟩, prog_7_method_31_code, 7, some (Jvm.ClassFile.FieldType.boolean), [], 3, 71)
def mm_Mo_put : tv_M := (⟨"TreeChangesModel", "put", "(I)V"⟩, prog_7_method_32_code, 2, none, [], 0, 0)
def mm_Mo_item : tv_M := (⟨"TreeChangesModel", "item", "(II)V"⟩, prog_7_method_33_code, 5, none, [], 1, 21)
def mm_Mo_comes : tv_M := (⟨"TreeChangesModel", "comes", "(II)V"⟩, prog_7_method_34_code, 4, none, [], 4, 97)
def mm_Mo_goes : tv_M := (⟨"TreeChangesModel", "goes", "(II)V"⟩, prog_7_method_35_code, 4, none, [], 4, 97)
def mm_Mo_changes : tv_M := (⟨"TreeChangesModel", "changes", "(I)I"⟩, prog_7_method_36_code, 6, some (Jvm.ClassFile.FieldType.int), [], 5, 120)
def mm_Mo_layer : tv_M := (⟨"TreeChangesModel", "layer", "(I)I"⟩, prog_7_method_37_code, 2, some (Jvm.ClassFile.FieldType.int), [], 1, 23)
def mm_Mo_done : tv_M := (⟨"TreeChangesModel", "done", "(III)Z"⟩, prog_7_method_38_code, 6, some (Jvm.ClassFile.FieldType.boolean), [], 4, 93)
def mm_Mo_apply : tv_M := (⟨"TreeChangesModel", "apply", "(I)V"⟩, prog_7_method_39_code, 7, none, [], 5, 118)
def mm_Mo_same : tv_M := (⟨"TreeChangesModel", "same", "()Z"⟩, prog_7_method_40_code, 3, some (Jvm.ClassFile.FieldType.boolean), [], 1, 24)
def mm_Mo_entries : tv_M := (⟨"TreeChangesModel", "entries", "(I)I"⟩, prog_7_method_41_code, 2, some (Jvm.ClassFile.FieldType.int), [], 1, 23)
def mm_Mo_entry : tv_M := (⟨"TreeChangesModel", "entry", "(III)I"⟩, prog_7_method_42_code, 6, some (Jvm.ClassFile.FieldType.int), [], 1, 23)
def mm_Lw_directory : tv_M := (⟨"TreeChangesLaw", "directory", "(LTreeChanges;I)I"⟩, method_3_code, 3, some (Jvm.ClassFile.FieldType.int), [((0 : Nat), (5 : Nat), (8 : Nat), (13 : Nat)), ((0 : Nat), (5 : Nat), (11 : Nat), (15 : Nat)), ((0 : Nat), (5 : Nat), (14 : Nat), (17 : Nat))], 8, 134)
def mm_Lw_file : tv_M := (⟨"TreeChangesLaw", "file", "(LTreeChanges;II)I"⟩, method_4_code, 4, some (Jvm.ClassFile.FieldType.int), [((0 : Nat), (6 : Nat), (9 : Nat), (13 : Nat)), ((0 : Nat), (6 : Nat), (12 : Nat), (15 : Nat)), ((0 : Nat), (6 : Nat), (15 : Nat), (17 : Nat))], 8, 136)
def mm_Lw_add : tv_M := (⟨"TreeChangesLaw", "add", "(LTreeChanges;II)I"⟩, method_5_code, 4, some (Jvm.ClassFile.FieldType.int), [((0 : Nat), (6 : Nat), (9 : Nat), (13 : Nat)), ((0 : Nat), (6 : Nat), (12 : Nat), (15 : Nat)), ((0 : Nat), (6 : Nat), (15 : Nat), (17 : Nat))], 8, 135)
def mm_Lw_remove : tv_M := (⟨"TreeChangesLaw", "remove", "(LTreeChanges;I)I"⟩, method_6_code, 3, some (Jvm.ClassFile.FieldType.int), [((0 : Nat), (5 : Nat), (8 : Nat), (13 : Nat)), ((0 : Nat), (5 : Nat), (11 : Nat), (15 : Nat))], 8, 133)
def mm_Lw_move : tv_M := (⟨"TreeChangesLaw", "move", "(LTreeChanges;IIII)I"⟩, method_7_code, 6, some (Jvm.ClassFile.FieldType.int), [((0 : Nat), (9 : Nat), (12 : Nat), (13 : Nat)), ((0 : Nat), (9 : Nat), (16 : Nat), (15 : Nat))], 8, 139)
def mm_Lw_copy : tv_M := (⟨"TreeChangesLaw", "copy", "(LTreeChanges;II)I"⟩, method_8_code, 4, some (Jvm.ClassFile.FieldType.int), [((0 : Nat), (6 : Nat), (9 : Nat), (13 : Nat))], 8, 134)
def mm_Lw_changes : tv_M := (⟨"TreeChangesLaw", "changes", "(LTreeChanges;I[J)I"⟩, method_9_code, 4, some (Jvm.ClassFile.FieldType.int), [((0 : Nat), (9 : Nat), (12 : Nat), (13 : Nat))], 8, 166)
def mm_Lw_layer : tv_M := (⟨"TreeChangesLaw", "layer", "(LTreeChanges;I[J)I"⟩, method_10_code, 4, some (Jvm.ClassFile.FieldType.int), [((0 : Nat), (9 : Nat), (12 : Nat), (43 : Nat))], 7, 111)
def mm_Lw_apply : tv_M := (⟨"TreeChangesLaw", "apply", "(LTreeChanges;I)I"⟩, method_11_code, 3, some (Jvm.ClassFile.FieldType.int), [((0 : Nat), (5 : Nat), (8 : Nat), (13 : Nat)), ((0 : Nat), (5 : Nat), (11 : Nat), (15 : Nat))], 8, 157)
def mm_Lw_entries : tv_M := (⟨"TreeChangesLaw", "entries", "(LTreeChanges;I[J)I"⟩, method_12_code, 4, some (Jvm.ClassFile.FieldType.int), [((0 : Nat), (9 : Nat), (12 : Nat), (13 : Nat))], 8, 132)
def mm_Lw_entry : tv_M := (⟨"TreeChangesLaw", "entry", "(LTreeChanges;III[J)I"⟩, method_13_code, 6, some (Jvm.ClassFile.FieldType.int), [((0 : Nat), (12 : Nat), (15 : Nat), (13 : Nat)), ((0 : Nat), (12 : Nat), (19 : Nat), (43 : Nat))], 8, 135)
def mm_Lw_law : tv_M := (⟨"TreeChangesLaw", "law", "([I)Z"⟩, code, 7, some (Jvm.ClassFile.FieldType.boolean), [], 9, 189)
end
section
/-! a row an instruction: TreeChanges$Path; by program (wip/tools/gen11.py) -/
theorem tw_obj : Cond.code objectInit ⟨#[0xb1]⟩ 1 none ∈ tc_TB := tw_23
theorem tw_max : Cond.code Lib.Math.max.name Lib.Math.max.code 2 (some .int) ∈ tc_TB := tw_432
section
variable {G : tv_G} {ls : List (Option Value)} {st : List Value} {h : tv_H} {c z : Nat} {Q : tv_R → tv_H → Prop}
theorem e_Pa_init_0 {x : Nat} (hl : ls[0]? = some (some (.ref x))) (kk : tv_Ev G mm_Pa_init 1 ls (.ref x :: st) h c z Q) : tv_Ev G mm_Pa_init 0 ls st h c z Q := ev_aload_n (show decode mm_Pa_init.2.1 0 = .ok (.aload_n 0, 1) by decide +kernel) rfl hl kk
theorem e_Pa_init_1 {a : Nat} (hst : (st.map fun v => v.category).sum ≤ 8) (kk : tv_Ev G mm_Pa_init 4 ls st h c z Q) : tv_Ev G mm_Pa_init 1 ls (.ref a :: st) h c z Q := ev_objinit (show decode mm_Pa_init.2.1 1 = .ok (.invokespecial 3, 3) by decide +kernel) tw_42 tw_22 tw_obj (by decide) (Nat.le_trans (Nat.add_le_add_right hst 12) (by decide)) kk
theorem e_Pa_init_4 {x : Nat} (hl : ls[0]? = some (some (.ref x))) (kk : tv_Ev G mm_Pa_init 5 ls (.ref x :: st) h c z Q) : tv_Ev G mm_Pa_init 4 ls st h c z Q := ev_aload_n (show decode mm_Pa_init.2.1 4 = .ok (.aload_n 0, 1) by decide +kernel) rfl hl kk
theorem e_Pa_init_5 (kk : tv_Ev G mm_Pa_init 7 ls (.int 19 :: st) h c z Q) : tv_Ev G mm_Pa_init 5 ls st h c z Q := ev_bipush 19 (show decode mm_Pa_init.2.1 5 = .ok (.bipush (19), 2) by decide +kernel) (by decide) kk
theorem e_Pa_init_7 {n : Int32} (N : Nat) (hn : n = nI N) (hN : N < 2 ^ 20) (kk : tv_Ev G mm_Pa_init 9 ls (.ref h.length :: st) (h ++ [(100, List.replicate N (.int 0))]) c z Q) : tv_Ev G mm_Pa_init 7 ls (.int n :: st) h (c + 1) (z + N) Q := ev_newbyte N (show decode mm_Pa_init.2.1 7 = .ok (.newarray .byte, 2) by decide +kernel) hn hN tw_52 kk
theorem fp_Pa_init_9 : tv_fp "TreeChanges$Path" "<init>" 9 2 0 (.array .byte) := ⟨_, _, _, rfl, by decide, by decide +kernel, Or.inr ⟨rfl, rfl, rfl, tw_43⟩⟩
theorem e_Pa_init_9 {a b : Nat} {fs : List Value} (hh : h[a]? = some (2, fs)) (hj : 0 < fs.length) (kk : tv_Ev G mm_Pa_init 12 ls st (h.set a (2, fs.set 0 (.ref b))) c z Q) : tv_Ev G mm_Pa_init 9 ls (.ref b :: .ref a :: st) h c z Q := ev_putR 2 0 (.array .byte) (show decode mm_Pa_init.2.1 9 = .ok (.putfield 9, 3) by decide +kernel) fp_Pa_init_9 (fun _ => ⟨rfl, rfl⟩) hh hj kk
theorem e_Pa_init_12 (hQ : Q (.inl none) h) : tv_Ev G mm_Pa_init 12 ls [] h c z Q := ev_return (show decode mm_Pa_init.2.1 12 = .ok (.return_, 1) by decide +kernel) rfl hQ
theorem e_Pa_isNone_0 {x : Nat} (hl : ls[0]? = some (some (.ref x))) (kk : tv_Ev G mm_Pa_isNone 1 ls (.ref x :: st) h c z Q) : tv_Ev G mm_Pa_isNone 0 ls st h c z Q := ev_aload_n (show decode mm_Pa_isNone.2.1 0 = .ok (.aload_n 0, 1) by decide +kernel) rfl hl kk
theorem fl_Pa_15 : tv_fl "TreeChanges$Path" 15 2 1 := ⟨_, _, _, rfl, by decide, Or.inl tw_44⟩
theorem e_Pa_isNone_1 {a : Nat} {fs : List Value} {v : Value} (hh : h[a]? = some (2, fs)) (hv : fs[1]? = some v) (kk : tv_Ev G mm_Pa_isNone 4 ls (v :: st) h c z Q) : tv_Ev G mm_Pa_isNone 1 ls (.ref a :: st) h c z Q := ev_getfield 2 1 (show decode mm_Pa_isNone.2.1 1 = .ok (.getfield 15, 3) by decide +kernel) fl_Pa_15 hh hv kk
theorem e_Pa_isNone_4 {x : Int32} (kt : ¬ x = 0 → tv_Ev G mm_Pa_isNone 11 ls st h c z Q) (kf : x = 0 → tv_Ev G mm_Pa_isNone 7 ls st h c z Q) : tv_Ev G mm_Pa_isNone 4 ls (.int x :: st) h c z Q := ev_if_ne 11 (show decode mm_Pa_isNone.2.1 4 = .ok (.ifCond .ne (7), 3) by decide +kernel) (by decide) kt kf
theorem e_Pa_isNone_7 (kk : tv_Ev G mm_Pa_isNone 8 ls (.int 1 :: st) h c z Q) : tv_Ev G mm_Pa_isNone 7 ls st h c z Q := ev_iconst 1 (show decode mm_Pa_isNone.2.1 7 = .ok (.iconst 1, 1) by decide +kernel) (by decide) kk
theorem e_Pa_isNone_8 (kk : tv_Ev G mm_Pa_isNone 12 ls st h c z Q) : tv_Ev G mm_Pa_isNone 8 ls st h c z Q := ev_goto 12 (show decode mm_Pa_isNone.2.1 8 = .ok (.goto (4), 3) by decide +kernel) (by decide) kk
theorem e_Pa_isNone_11 (kk : tv_Ev G mm_Pa_isNone 12 ls (.int 0 :: st) h c z Q) : tv_Ev G mm_Pa_isNone 11 ls st h c z Q := ev_iconst 0 (show decode mm_Pa_isNone.2.1 11 = .ok (.iconst 0, 1) by decide +kernel) (by decide) kk
theorem e_Pa_isNone_12 {x : Int32} (hx : x = 0 ∨ x = 1) (hQ : Q (.inl (some (.int x))) h) : tv_Ev G mm_Pa_isNone 12 ls [.int x] h c z Q := ev_zreturn (show decode mm_Pa_isNone.2.1 12 = .ok (.ireturn, 1) by decide +kernel) rfl hx hQ
theorem e_Pa_clear_0 {x : Nat} (hl : ls[0]? = some (some (.ref x))) (kk : tv_Ev G mm_Pa_clear 1 ls (.ref x :: st) h c z Q) : tv_Ev G mm_Pa_clear 0 ls st h c z Q := ev_aload_n (show decode mm_Pa_clear.2.1 0 = .ok (.aload_n 0, 1) by decide +kernel) rfl hl kk
theorem e_Pa_clear_1 (kk : tv_Ev G mm_Pa_clear 2 ls (.int 0 :: st) h c z Q) : tv_Ev G mm_Pa_clear 1 ls st h c z Q := ev_iconst 0 (show decode mm_Pa_clear.2.1 1 = .ok (.iconst 0, 1) by decide +kernel) (by decide) kk
theorem fp_Pa_clear_2 : tv_fp "TreeChanges$Path" "clear" 15 2 1 .int := ⟨_, _, _, rfl, by decide, by decide +kernel, Or.inl ⟨rfl, Or.inl tw_44⟩⟩
theorem e_Pa_clear_2 {a : Nat} {fs : List Value} {x : Int32} (hh : h[a]? = some (2, fs)) (hj : 1 < fs.length) (kk : tv_Ev G mm_Pa_clear 5 ls st (h.set a (2, fs.set 1 (.int x))) c z Q) : tv_Ev G mm_Pa_clear 2 ls (.int x :: .ref a :: st) h c z Q := ev_putI 2 1 (show decode mm_Pa_clear.2.1 2 = .ok (.putfield 15, 3) by decide +kernel) fp_Pa_clear_2 hh hj kk
theorem e_Pa_clear_5 (hQ : Q (.inl none) h) : tv_Ev G mm_Pa_clear 5 ls [] h c z Q := ev_return (show decode mm_Pa_clear.2.1 5 = .ok (.return_, 1) by decide +kernel) rfl hQ
theorem e_Pa_append_0 {x : Nat} (hl : ls[0]? = some (some (.ref x))) (kk : tv_Ev G mm_Pa_append 1 ls (.ref x :: st) h c z Q) : tv_Ev G mm_Pa_append 0 ls st h c z Q := ev_aload_n (show decode mm_Pa_append.2.1 0 = .ok (.aload_n 0, 1) by decide +kernel) rfl hl kk
theorem e_Pa_append_1 {a : Nat} {fs : List Value} {v : Value} (hh : h[a]? = some (2, fs)) (hv : fs[1]? = some v) (kk : tv_Ev G mm_Pa_append 4 ls (v :: st) h c z Q) : tv_Ev G mm_Pa_append 1 ls (.ref a :: st) h c z Q := ev_getfield 2 1 (show decode mm_Pa_append.2.1 1 = .ok (.getfield 15, 3) by decide +kernel) fl_Pa_15 hh hv kk
theorem e_Pa_append_4 (kk : tv_Ev G mm_Pa_append 6 ls (.int 19 :: st) h c z Q) : tv_Ev G mm_Pa_append 4 ls st h c z Q := ev_bipush 19 (show decode mm_Pa_append.2.1 4 = .ok (.bipush (19), 2) by decide +kernel) (by decide) kk
theorem e_Pa_append_6 {x y : Int32} (kt : y ≤ x → tv_Ev G mm_Pa_append 30 ls st h c z Q) (kf : ¬ (y ≤ x) → tv_Ev G mm_Pa_append 9 ls st h c z Q) : tv_Ev G mm_Pa_append 6 ls (.int y :: .int x :: st) h c z Q := ev_icmp_ge 30 (show decode mm_Pa_append.2.1 6 = .ok (.if_icmp .ge (24), 3) by decide +kernel) (by decide) kt kf
theorem e_Pa_append_9 {x : Nat} (hl : ls[0]? = some (some (.ref x))) (kk : tv_Ev G mm_Pa_append 10 ls (.ref x :: st) h c z Q) : tv_Ev G mm_Pa_append 9 ls st h c z Q := ev_aload_n (show decode mm_Pa_append.2.1 9 = .ok (.aload_n 0, 1) by decide +kernel) rfl hl kk
theorem fl_Pa_9 : tv_fl "TreeChanges$Path" 9 2 0 := ⟨_, _, _, rfl, by decide, Or.inl tw_43⟩
theorem e_Pa_append_10 {a : Nat} {fs : List Value} {v : Value} (hh : h[a]? = some (2, fs)) (hv : fs[0]? = some v) (kk : tv_Ev G mm_Pa_append 13 ls (v :: st) h c z Q) : tv_Ev G mm_Pa_append 10 ls (.ref a :: st) h c z Q := ev_getfield 2 0 (show decode mm_Pa_append.2.1 10 = .ok (.getfield 9, 3) by decide +kernel) fl_Pa_9 hh hv kk
theorem e_Pa_append_13 {x : Nat} (hl : ls[0]? = some (some (.ref x))) (kk : tv_Ev G mm_Pa_append 14 ls (.ref x :: st) h c z Q) : tv_Ev G mm_Pa_append 13 ls st h c z Q := ev_aload_n (show decode mm_Pa_append.2.1 13 = .ok (.aload_n 0, 1) by decide +kernel) rfl hl kk
theorem e_Pa_append_14 {a : Nat} {fs : List Value} {v : Value} (hh : h[a]? = some (2, fs)) (hv : fs[1]? = some v) (kk : tv_Ev G mm_Pa_append 17 ls (v :: st) h c z Q) : tv_Ev G mm_Pa_append 14 ls (.ref a :: st) h c z Q := ev_getfield 2 1 (show decode mm_Pa_append.2.1 14 = .ok (.getfield 15, 3) by decide +kernel) fl_Pa_15 hh hv kk
theorem e_Pa_append_17 {x : Int32} (hl : ls[1]? = some (some (.int x))) (kk : tv_Ev G mm_Pa_append 18 ls (.int x :: st) h c z Q) : tv_Ev G mm_Pa_append 17 ls st h c z Q := ev_iload_n (show decode mm_Pa_append.2.1 17 = .ok (.iload_n 1, 1) by decide +kernel) rfl hl kk
theorem e_Pa_append_18 {x : Int32} (kk : tv_Ev G mm_Pa_append 19 ls (.int x.toInt8.toInt32 :: st) h c z Q) : tv_Ev G mm_Pa_append 18 ls (.int x :: st) h c z Q := ev_i2b (show decode mm_Pa_append.2.1 18 = .ok (.i2b, 1) by decide +kernel) kk
theorem e_Pa_append_19 {a : Nat} {fs : List Value} {i : Int32} {x : Int32} (j : Nat) (hh : h[a]? = some (100, fs)) (hi : i = nI j) (hj : j < fs.length) (hl : fs.length < 2 ^ 31) (kk : tv_Ev G mm_Pa_append 20 ls st (h.set a (100, fs.set j (.int x.toInt8.toInt32))) c z Q) : tv_Ev G mm_Pa_append 19 ls (.int x :: .int i :: .ref a :: st) h c z Q := ev_bastore j (show decode mm_Pa_append.2.1 19 = .ok (.bastore, 1) by decide +kernel) hh hi hj hl kk
theorem e_Pa_append_20 {x : Nat} (hl : ls[0]? = some (some (.ref x))) (kk : tv_Ev G mm_Pa_append 21 ls (.ref x :: st) h c z Q) : tv_Ev G mm_Pa_append 20 ls st h c z Q := ev_aload_n (show decode mm_Pa_append.2.1 20 = .ok (.aload_n 0, 1) by decide +kernel) rfl hl kk
theorem e_Pa_append_21 {v : Value} (hv : v.category = 1) (kk : tv_Ev G mm_Pa_append 22 ls (v :: v :: st) h c z Q) : tv_Ev G mm_Pa_append 21 ls (v :: st) h c z Q := ev_dup (show decode mm_Pa_append.2.1 21 = .ok (.dup, 1) by decide +kernel) hv kk
theorem e_Pa_append_22 {a : Nat} {fs : List Value} {v : Value} (hh : h[a]? = some (2, fs)) (hv : fs[1]? = some v) (kk : tv_Ev G mm_Pa_append 25 ls (v :: st) h c z Q) : tv_Ev G mm_Pa_append 22 ls (.ref a :: st) h c z Q := ev_getfield 2 1 (show decode mm_Pa_append.2.1 22 = .ok (.getfield 15, 3) by decide +kernel) fl_Pa_15 hh hv kk
theorem e_Pa_append_25 (kk : tv_Ev G mm_Pa_append 26 ls (.int 1 :: st) h c z Q) : tv_Ev G mm_Pa_append 25 ls st h c z Q := ev_iconst 1 (show decode mm_Pa_append.2.1 25 = .ok (.iconst 1, 1) by decide +kernel) (by decide) kk
theorem e_Pa_append_26 {x y : Int32} (kk : tv_Ev G mm_Pa_append 27 ls (.int (x + y) :: st) h c z Q) : tv_Ev G mm_Pa_append 26 ls (.int y :: .int x :: st) h c z Q := ev_iadd (show decode mm_Pa_append.2.1 26 = .ok (.iadd, 1) by decide +kernel) kk
theorem fp_Pa_append_27 : tv_fp "TreeChanges$Path" "append" 15 2 1 .int := ⟨_, _, _, rfl, by decide, by decide +kernel, Or.inl ⟨rfl, Or.inl tw_44⟩⟩
theorem e_Pa_append_27 {a : Nat} {fs : List Value} {x : Int32} (hh : h[a]? = some (2, fs)) (hj : 1 < fs.length) (kk : tv_Ev G mm_Pa_append 30 ls st (h.set a (2, fs.set 1 (.int x))) c z Q) : tv_Ev G mm_Pa_append 27 ls (.int x :: .ref a :: st) h c z Q := ev_putI 2 1 (show decode mm_Pa_append.2.1 27 = .ok (.putfield 15, 3) by decide +kernel) fp_Pa_append_27 hh hj kk
theorem e_Pa_append_30 (hQ : Q (.inl none) h) : tv_Ev G mm_Pa_append 30 ls [] h c z Q := ev_return (show decode mm_Pa_append.2.1 30 = .ok (.return_, 1) by decide +kernel) rfl hQ
theorem e_Pa_become_0 {x : Nat} (hl : ls[1]? = some (some (.ref x))) (kk : tv_Ev G mm_Pa_become 1 ls (.ref x :: st) h c z Q) : tv_Ev G mm_Pa_become 0 ls st h c z Q := ev_aload_n (show decode mm_Pa_become.2.1 0 = .ok (.aload_n 1, 1) by decide +kernel) rfl hl kk
theorem e_Pa_become_1 {a : Nat} {fs : List Value} {v : Value} (hh : h[a]? = some (2, fs)) (hv : fs[0]? = some v) (kk : tv_Ev G mm_Pa_become 4 ls (v :: st) h c z Q) : tv_Ev G mm_Pa_become 1 ls (.ref a :: st) h c z Q := ev_getfield 2 0 (show decode mm_Pa_become.2.1 1 = .ok (.getfield 9, 3) by decide +kernel) fl_Pa_9 hh hv kk
theorem e_Pa_become_4 (kk : tv_Ev G mm_Pa_become 5 ls (.int 0 :: st) h c z Q) : tv_Ev G mm_Pa_become 4 ls st h c z Q := ev_iconst 0 (show decode mm_Pa_become.2.1 4 = .ok (.iconst 0, 1) by decide +kernel) (by decide) kk
theorem e_Pa_become_5 {x : Nat} (hl : ls[0]? = some (some (.ref x))) (kk : tv_Ev G mm_Pa_become 6 ls (.ref x :: st) h c z Q) : tv_Ev G mm_Pa_become 5 ls st h c z Q := ev_aload_n (show decode mm_Pa_become.2.1 5 = .ok (.aload_n 0, 1) by decide +kernel) rfl hl kk
theorem e_Pa_become_6 {a : Nat} {fs : List Value} {v : Value} (hh : h[a]? = some (2, fs)) (hv : fs[0]? = some v) (kk : tv_Ev G mm_Pa_become 9 ls (v :: st) h c z Q) : tv_Ev G mm_Pa_become 6 ls (.ref a :: st) h c z Q := ev_getfield 2 0 (show decode mm_Pa_become.2.1 6 = .ok (.getfield 9, 3) by decide +kernel) fl_Pa_9 hh hv kk
theorem e_Pa_become_9 (kk : tv_Ev G mm_Pa_become 10 ls (.int 0 :: st) h c z Q) : tv_Ev G mm_Pa_become 9 ls st h c z Q := ev_iconst 0 (show decode mm_Pa_become.2.1 9 = .ok (.iconst 0, 1) by decide +kernel) (by decide) kk
theorem e_Pa_become_10 (kk : tv_Ev G mm_Pa_become 12 ls (.int 19 :: st) h c z Q) : tv_Ev G mm_Pa_become 10 ls st h c z Q := ev_bipush 19 (show decode mm_Pa_become.2.1 10 = .ok (.bipush (19), 2) by decide +kernel) (by decide) kk
theorem e_Pa_become_12 {a b : Nat} {fs gs : List Value} {isp idp inn : Int32} (sp dp n : Nat) (ha : h[a]? = some (100, fs)) (hb : h[b]? = some (100, gs)) (h1 : isp = nI sp) (h2 : idp = nI dp) (h3 : inn = nI n) (h4 : sp + n ≤ fs.length) (h5 : dp + n ≤ gs.length) (hl1 : fs.length < 2 ^ 31) (hl2 : gs.length < 2 ^ 31) (hfit : ∀ v ∈ fs, fits .byte v = true) (hst : (st.map fun v => v.category).sum ≤ 8) (kk : tv_Ev G mm_Pa_become 15 ls st (h.set b (100, tv_cpy fs gs sp dp n)) c z Q) : tv_Ev G mm_Pa_become 12 ls (.int inn :: .int idp :: .ref b :: .int isp :: .ref a :: st) h c z Q := ev_copyb sp dp n (show decode mm_Pa_become.2.1 12 = .ok (.invokestatic 19, 3) by decide +kernel) tw_342 tw_344 tw_343 tw_13 ha hb h1 h2 h3 h4 h5 hl1 hl2 hfit (by decide) (Nat.le_trans (Nat.add_le_add_right hst 18) (by decide)) kk
theorem e_Pa_become_15 {x : Nat} (hl : ls[0]? = some (some (.ref x))) (kk : tv_Ev G mm_Pa_become 16 ls (.ref x :: st) h c z Q) : tv_Ev G mm_Pa_become 15 ls st h c z Q := ev_aload_n (show decode mm_Pa_become.2.1 15 = .ok (.aload_n 0, 1) by decide +kernel) rfl hl kk
theorem e_Pa_become_16 {x : Nat} (hl : ls[1]? = some (some (.ref x))) (kk : tv_Ev G mm_Pa_become 17 ls (.ref x :: st) h c z Q) : tv_Ev G mm_Pa_become 16 ls st h c z Q := ev_aload_n (show decode mm_Pa_become.2.1 16 = .ok (.aload_n 1, 1) by decide +kernel) rfl hl kk
theorem e_Pa_become_17 {a : Nat} {fs : List Value} {v : Value} (hh : h[a]? = some (2, fs)) (hv : fs[1]? = some v) (kk : tv_Ev G mm_Pa_become 20 ls (v :: st) h c z Q) : tv_Ev G mm_Pa_become 17 ls (.ref a :: st) h c z Q := ev_getfield 2 1 (show decode mm_Pa_become.2.1 17 = .ok (.getfield 15, 3) by decide +kernel) fl_Pa_15 hh hv kk
theorem fp_Pa_become_20 : tv_fp "TreeChanges$Path" "become" 15 2 1 .int := ⟨_, _, _, rfl, by decide, by decide +kernel, Or.inl ⟨rfl, Or.inl tw_44⟩⟩
theorem e_Pa_become_20 {a : Nat} {fs : List Value} {x : Int32} (hh : h[a]? = some (2, fs)) (hj : 1 < fs.length) (kk : tv_Ev G mm_Pa_become 23 ls st (h.set a (2, fs.set 1 (.int x))) c z Q) : tv_Ev G mm_Pa_become 20 ls (.int x :: .ref a :: st) h c z Q := ev_putI 2 1 (show decode mm_Pa_become.2.1 20 = .ok (.putfield 15, 3) by decide +kernel) fp_Pa_become_20 hh hj kk
theorem e_Pa_become_23 (hQ : Q (.inl none) h) : tv_Ev G mm_Pa_become 23 ls [] h c z Q := ev_return (show decode mm_Pa_become.2.1 23 = .ok (.return_, 1) by decide +kernel) rfl hQ
theorem e_Pa_readSigns_0 {x : Nat} (hl : ls[0]? = some (some (.ref x))) (kk : tv_Ev G mm_Pa_readSigns 1 ls (.ref x :: st) h c z Q) : tv_Ev G mm_Pa_readSigns 0 ls st h c z Q := ev_aload_n (show decode mm_Pa_readSigns.2.1 0 = .ok (.aload_n 0, 1) by decide +kernel) rfl hl kk
theorem lk_Pa_readSigns_1 : tv_lkV mm_Pa_readSigns mm_Pa_clear 25 0 := ⟨rfl, ⟨tw_139, tw_4, ⟨by decide +kernel, by decide +kernel⟩, by decide +kernel, by decide, by decide⟩, tw_136, tw_137, tw_138⟩
theorem e_Pa_readSigns_1 {a : Nat} {fs : List Value} {mc' ms' : Nat} {Q' : tv_R → tv_H → Prop} (hobj : h[a]? = some (2, fs)) (hst : (st.map fun v => v.category).sum ≤ 8) (hct : tv_Ct G mm_Pa_clear [.ref a] h mc' ms' Q') (kk : ∀ v h', Q' (.inl v) h' → tv_Ev G mm_Pa_readSigns 4 ls (v.toList ++ st) h' c z Q) (kx : ∀ E h', Q' (.inr E) h' → tv_Xv G mm_Pa_readSigns 1 ls h' c z Q E) : tv_Ev G mm_Pa_readSigns 1 ls (.ref a :: st) h (c + mc') (z + ms') Q := ev_invokevirtual (vs := []) mm_Pa_clear (show decode mm_Pa_readSigns.2.1 1 = .ok (.invokevirtual 25, 3) by decide +kernel) lk_Pa_readSigns_1 rfl hobj rfl hst hct kk kx
theorem e_Pa_readSigns_4 {x : Nat} (hl : ls[0]? = some (some (.ref x))) (kk : tv_Ev G mm_Pa_readSigns 5 ls (.ref x :: st) h c z Q) : tv_Ev G mm_Pa_readSigns 4 ls st h c z Q := ev_aload_n (show decode mm_Pa_readSigns.2.1 4 = .ok (.aload_n 0, 1) by decide +kernel) rfl hl kk
theorem e_Pa_readSigns_5 {x : Int32} (hl : ls[1]? = some (some (.int x))) (kk : tv_Ev G mm_Pa_readSigns 6 ls (.int x :: st) h c z Q) : tv_Ev G mm_Pa_readSigns 5 ls st h c z Q := ev_iload_n (show decode mm_Pa_readSigns.2.1 5 = .ok (.iload_n 1, 1) by decide +kernel) rfl hl kk
theorem lk_Pa_readSigns_6 : tv_lkV mm_Pa_readSigns mm_Pa_appendWord 28 1 := ⟨rfl, ⟨tw_143, tw_4, ⟨by decide +kernel, by decide +kernel⟩, by decide +kernel, by decide, by decide⟩, tw_140, tw_142, ts_0⟩
theorem e_Pa_readSigns_6 {v1 : Value} {a : Nat} {fs : List Value} {mc' ms' : Nat} {Q' : tv_R → tv_H → Prop} (hobj : h[a]? = some (2, fs)) (hst : (st.map fun v => v.category).sum ≤ 8) (hct : tv_Ct G mm_Pa_appendWord [.ref a, v1] h mc' ms' Q') (kk : ∀ v h', Q' (.inl v) h' → tv_Ev G mm_Pa_readSigns 9 ls (v.toList ++ st) h' c z Q) (kx : ∀ E h', Q' (.inr E) h' → tv_Xv G mm_Pa_readSigns 6 ls h' c z Q E) : tv_Ev G mm_Pa_readSigns 6 ls (v1 :: .ref a :: st) h (c + mc') (z + ms') Q := ev_invokevirtual (vs := [v1]) mm_Pa_appendWord (show decode mm_Pa_readSigns.2.1 6 = .ok (.invokevirtual 28, 3) by decide +kernel) lk_Pa_readSigns_6 rfl hobj rfl hst hct kk kx
theorem e_Pa_readSigns_9 {x : Nat} (hl : ls[0]? = some (some (.ref x))) (kk : tv_Ev G mm_Pa_readSigns 10 ls (.ref x :: st) h c z Q) : tv_Ev G mm_Pa_readSigns 9 ls st h c z Q := ev_aload_n (show decode mm_Pa_readSigns.2.1 9 = .ok (.aload_n 0, 1) by decide +kernel) rfl hl kk
theorem e_Pa_readSigns_10 {x : Int32} (hl : ls[2]? = some (some (.int x))) (kk : tv_Ev G mm_Pa_readSigns 11 ls (.int x :: st) h c z Q) : tv_Ev G mm_Pa_readSigns 10 ls st h c z Q := ev_iload_n (show decode mm_Pa_readSigns.2.1 10 = .ok (.iload_n 2, 1) by decide +kernel) rfl hl kk
theorem lk_Pa_readSigns_11 : tv_lkV mm_Pa_readSigns mm_Pa_appendWord 28 1 := ⟨rfl, ⟨tw_143, tw_4, ⟨by decide +kernel, by decide +kernel⟩, by decide +kernel, by decide, by decide⟩, tw_140, tw_142, ts_0⟩
theorem e_Pa_readSigns_11 {v1 : Value} {a : Nat} {fs : List Value} {mc' ms' : Nat} {Q' : tv_R → tv_H → Prop} (hobj : h[a]? = some (2, fs)) (hst : (st.map fun v => v.category).sum ≤ 8) (hct : tv_Ct G mm_Pa_appendWord [.ref a, v1] h mc' ms' Q') (kk : ∀ v h', Q' (.inl v) h' → tv_Ev G mm_Pa_readSigns 14 ls (v.toList ++ st) h' c z Q) (kx : ∀ E h', Q' (.inr E) h' → tv_Xv G mm_Pa_readSigns 11 ls h' c z Q E) : tv_Ev G mm_Pa_readSigns 11 ls (v1 :: .ref a :: st) h (c + mc') (z + ms') Q := ev_invokevirtual (vs := [v1]) mm_Pa_appendWord (show decode mm_Pa_readSigns.2.1 11 = .ok (.invokevirtual 28, 3) by decide +kernel) lk_Pa_readSigns_11 rfl hobj rfl hst hct kk kx
theorem e_Pa_readSigns_14 {x : Nat} (hl : ls[0]? = some (some (.ref x))) (kk : tv_Ev G mm_Pa_readSigns 15 ls (.ref x :: st) h c z Q) : tv_Ev G mm_Pa_readSigns 14 ls st h c z Q := ev_aload_n (show decode mm_Pa_readSigns.2.1 14 = .ok (.aload_n 0, 1) by decide +kernel) rfl hl kk
theorem e_Pa_readSigns_15 {x : Int32} (hl : ls[3]? = some (some (.int x))) (kk : tv_Ev G mm_Pa_readSigns 16 ls (.int x :: st) h c z Q) : tv_Ev G mm_Pa_readSigns 15 ls st h c z Q := ev_iload_n (show decode mm_Pa_readSigns.2.1 15 = .ok (.iload_n 3, 1) by decide +kernel) rfl hl kk
theorem lk_Pa_readSigns_16 : tv_lkV mm_Pa_readSigns mm_Pa_appendWord 28 1 := ⟨rfl, ⟨tw_143, tw_4, ⟨by decide +kernel, by decide +kernel⟩, by decide +kernel, by decide, by decide⟩, tw_140, tw_142, ts_0⟩
theorem e_Pa_readSigns_16 {v1 : Value} {a : Nat} {fs : List Value} {mc' ms' : Nat} {Q' : tv_R → tv_H → Prop} (hobj : h[a]? = some (2, fs)) (hst : (st.map fun v => v.category).sum ≤ 8) (hct : tv_Ct G mm_Pa_appendWord [.ref a, v1] h mc' ms' Q') (kk : ∀ v h', Q' (.inl v) h' → tv_Ev G mm_Pa_readSigns 19 ls (v.toList ++ st) h' c z Q) (kx : ∀ E h', Q' (.inr E) h' → tv_Xv G mm_Pa_readSigns 16 ls h' c z Q E) : tv_Ev G mm_Pa_readSigns 16 ls (v1 :: .ref a :: st) h (c + mc') (z + ms') Q := ev_invokevirtual (vs := [v1]) mm_Pa_appendWord (show decode mm_Pa_readSigns.2.1 16 = .ok (.invokevirtual 28, 3) by decide +kernel) lk_Pa_readSigns_16 rfl hobj rfl hst hct kk kx
theorem e_Pa_readSigns_19 {x : Nat} (hl : ls[0]? = some (some (.ref x))) (kk : tv_Ev G mm_Pa_readSigns 20 ls (.ref x :: st) h c z Q) : tv_Ev G mm_Pa_readSigns 19 ls st h c z Q := ev_aload_n (show decode mm_Pa_readSigns.2.1 19 = .ok (.aload_n 0, 1) by decide +kernel) rfl hl kk
theorem lk_Pa_readSigns_20 : tv_lkV mm_Pa_readSigns mm_Pa_isWellFormed 32 0 := ⟨rfl, ⟨tw_154, tw_4, ⟨by decide +kernel, by decide +kernel⟩, by decide +kernel, by decide, by decide⟩, tw_151, tw_153, ts_1⟩
theorem e_Pa_readSigns_20 {a : Nat} {fs : List Value} {mc' ms' : Nat} {Q' : tv_R → tv_H → Prop} (hobj : h[a]? = some (2, fs)) (hst : (st.map fun v => v.category).sum ≤ 8) (hct : tv_Ct G mm_Pa_isWellFormed [.ref a] h mc' ms' Q') (kk : ∀ v h', Q' (.inl v) h' → tv_Ev G mm_Pa_readSigns 23 ls (v.toList ++ st) h' c z Q) (kx : ∀ E h', Q' (.inr E) h' → tv_Xv G mm_Pa_readSigns 20 ls h' c z Q E) : tv_Ev G mm_Pa_readSigns 20 ls (.ref a :: st) h (c + mc') (z + ms') Q := ev_invokevirtual (vs := []) mm_Pa_isWellFormed (show decode mm_Pa_readSigns.2.1 20 = .ok (.invokevirtual 32, 3) by decide +kernel) lk_Pa_readSigns_20 rfl hobj rfl hst hct kk kx
theorem e_Pa_readSigns_23 {x : Int32} (kt : ¬ x = 0 → tv_Ev G mm_Pa_readSigns 30 ls st h c z Q) (kf : x = 0 → tv_Ev G mm_Pa_readSigns 26 ls st h c z Q) : tv_Ev G mm_Pa_readSigns 23 ls (.int x :: st) h c z Q := ev_if_ne 30 (show decode mm_Pa_readSigns.2.1 23 = .ok (.ifCond .ne (7), 3) by decide +kernel) (by decide) kt kf
theorem e_Pa_readSigns_26 {x : Nat} (hl : ls[0]? = some (some (.ref x))) (kk : tv_Ev G mm_Pa_readSigns 27 ls (.ref x :: st) h c z Q) : tv_Ev G mm_Pa_readSigns 26 ls st h c z Q := ev_aload_n (show decode mm_Pa_readSigns.2.1 26 = .ok (.aload_n 0, 1) by decide +kernel) rfl hl kk
theorem lk_Pa_readSigns_27 : tv_lkV mm_Pa_readSigns mm_Pa_clear 25 0 := ⟨rfl, ⟨tw_139, tw_4, ⟨by decide +kernel, by decide +kernel⟩, by decide +kernel, by decide, by decide⟩, tw_136, tw_137, tw_138⟩
theorem e_Pa_readSigns_27 {a : Nat} {fs : List Value} {mc' ms' : Nat} {Q' : tv_R → tv_H → Prop} (hobj : h[a]? = some (2, fs)) (hst : (st.map fun v => v.category).sum ≤ 8) (hct : tv_Ct G mm_Pa_clear [.ref a] h mc' ms' Q') (kk : ∀ v h', Q' (.inl v) h' → tv_Ev G mm_Pa_readSigns 30 ls (v.toList ++ st) h' c z Q) (kx : ∀ E h', Q' (.inr E) h' → tv_Xv G mm_Pa_readSigns 27 ls h' c z Q E) : tv_Ev G mm_Pa_readSigns 27 ls (.ref a :: st) h (c + mc') (z + ms') Q := ev_invokevirtual (vs := []) mm_Pa_clear (show decode mm_Pa_readSigns.2.1 27 = .ok (.invokevirtual 25, 3) by decide +kernel) lk_Pa_readSigns_27 rfl hobj rfl hst hct kk kx
theorem e_Pa_readSigns_30 {x : Nat} (hl : ls[0]? = some (some (.ref x))) (kk : tv_Ev G mm_Pa_readSigns 31 ls (.ref x :: st) h c z Q) : tv_Ev G mm_Pa_readSigns 30 ls st h c z Q := ev_aload_n (show decode mm_Pa_readSigns.2.1 30 = .ok (.aload_n 0, 1) by decide +kernel) rfl hl kk
theorem lk_Pa_readSigns_31 : tv_lkV mm_Pa_readSigns mm_Pa_isNone 36 0 := ⟨rfl, ⟨tw_169, tw_4, ⟨by decide +kernel, by decide +kernel⟩, by decide +kernel, by decide, by decide⟩, tw_166, tw_167, tw_168⟩
theorem e_Pa_readSigns_31 {a : Nat} {fs : List Value} {mc' ms' : Nat} {Q' : tv_R → tv_H → Prop} (hobj : h[a]? = some (2, fs)) (hst : (st.map fun v => v.category).sum ≤ 8) (hct : tv_Ct G mm_Pa_isNone [.ref a] h mc' ms' Q') (kk : ∀ v h', Q' (.inl v) h' → tv_Ev G mm_Pa_readSigns 34 ls (v.toList ++ st) h' c z Q) (kx : ∀ E h', Q' (.inr E) h' → tv_Xv G mm_Pa_readSigns 31 ls h' c z Q E) : tv_Ev G mm_Pa_readSigns 31 ls (.ref a :: st) h (c + mc') (z + ms') Q := ev_invokevirtual (vs := []) mm_Pa_isNone (show decode mm_Pa_readSigns.2.1 31 = .ok (.invokevirtual 36, 3) by decide +kernel) lk_Pa_readSigns_31 rfl hobj rfl hst hct kk kx
theorem e_Pa_readSigns_34 {x : Int32} (kt : ¬ x = 0 → tv_Ev G mm_Pa_readSigns 41 ls st h c z Q) (kf : x = 0 → tv_Ev G mm_Pa_readSigns 37 ls st h c z Q) : tv_Ev G mm_Pa_readSigns 34 ls (.int x :: st) h c z Q := ev_if_ne 41 (show decode mm_Pa_readSigns.2.1 34 = .ok (.ifCond .ne (7), 3) by decide +kernel) (by decide) kt kf
theorem e_Pa_readSigns_37 (kk : tv_Ev G mm_Pa_readSigns 38 ls (.int 1 :: st) h c z Q) : tv_Ev G mm_Pa_readSigns 37 ls st h c z Q := ev_iconst 1 (show decode mm_Pa_readSigns.2.1 37 = .ok (.iconst 1, 1) by decide +kernel) (by decide) kk
theorem e_Pa_readSigns_38 (kk : tv_Ev G mm_Pa_readSigns 42 ls st h c z Q) : tv_Ev G mm_Pa_readSigns 38 ls st h c z Q := ev_goto 42 (show decode mm_Pa_readSigns.2.1 38 = .ok (.goto (4), 3) by decide +kernel) (by decide) kk
theorem e_Pa_readSigns_41 (kk : tv_Ev G mm_Pa_readSigns 42 ls (.int 0 :: st) h c z Q) : tv_Ev G mm_Pa_readSigns 41 ls st h c z Q := ev_iconst 0 (show decode mm_Pa_readSigns.2.1 41 = .ok (.iconst 0, 1) by decide +kernel) (by decide) kk
theorem e_Pa_readSigns_42 {x : Int32} (hx : x = 0 ∨ x = 1) (hQ : Q (.inl (some (.int x))) h) : tv_Ev G mm_Pa_readSigns 42 ls [.int x] h c z Q := ev_zreturn (show decode mm_Pa_readSigns.2.1 42 = .ok (.ireturn, 1) by decide +kernel) rfl hx hQ
theorem e_Pa_appendWord_0 (kk : tv_Ev G mm_Pa_appendWord 1 ls (.int 0 :: st) h c z Q) : tv_Ev G mm_Pa_appendWord 0 ls st h c z Q := ev_iconst 0 (show decode mm_Pa_appendWord.2.1 0 = .ok (.iconst 0, 1) by decide +kernel) (by decide) kk
theorem e_Pa_appendWord_1 {x : Int32} (hi2 : 2 < ls.length) (kk : tv_Ev G mm_Pa_appendWord 2 (ls.set 2 (some (.int x))) st h c z Q) : tv_Ev G mm_Pa_appendWord 1 ls (.int x :: st) h c z Q := ev_istore_n (show decode mm_Pa_appendWord.2.1 1 = .ok (.istore_n 2, 1) by decide +kernel) rfl hi2 kk
theorem e_Pa_appendWord_2 {x : Int32} (hl : ls[2]? = some (some (.int x))) (kk : tv_Ev G mm_Pa_appendWord 3 ls (.int x :: st) h c z Q) : tv_Ev G mm_Pa_appendWord 2 ls st h c z Q := ev_iload_n (show decode mm_Pa_appendWord.2.1 2 = .ok (.iload_n 2, 1) by decide +kernel) rfl hl kk
theorem e_Pa_appendWord_3 (kk : tv_Ev G mm_Pa_appendWord 4 ls (.int 4 :: st) h c z Q) : tv_Ev G mm_Pa_appendWord 3 ls st h c z Q := ev_iconst 4 (show decode mm_Pa_appendWord.2.1 3 = .ok (.iconst 4, 1) by decide +kernel) (by decide) kk
theorem e_Pa_appendWord_4 {x y : Int32} (kt : y ≤ x → tv_Ev G mm_Pa_appendWord 28 ls st h c z Q) (kf : ¬ (y ≤ x) → tv_Ev G mm_Pa_appendWord 7 ls st h c z Q) : tv_Ev G mm_Pa_appendWord 4 ls (.int y :: .int x :: st) h c z Q := ev_icmp_ge 28 (show decode mm_Pa_appendWord.2.1 4 = .ok (.if_icmp .ge (24), 3) by decide +kernel) (by decide) kt kf
theorem e_Pa_appendWord_7 {x : Int32} (hl : ls[1]? = some (some (.int x))) (kk : tv_Ev G mm_Pa_appendWord 8 ls (.int x :: st) h c z Q) : tv_Ev G mm_Pa_appendWord 7 ls st h c z Q := ev_iload_n (show decode mm_Pa_appendWord.2.1 7 = .ok (.iload_n 1, 1) by decide +kernel) rfl hl kk
theorem e_Pa_appendWord_8 {x : Int32} (hl : ls[2]? = some (some (.int x))) (kk : tv_Ev G mm_Pa_appendWord 9 ls (.int x :: st) h c z Q) : tv_Ev G mm_Pa_appendWord 8 ls st h c z Q := ev_iload_n (show decode mm_Pa_appendWord.2.1 8 = .ok (.iload_n 2, 1) by decide +kernel) rfl hl kk
theorem lk_Pa_appendWord_9 : tv_lkN mm_Pa_appendWord mm_Tc_byteOf 39 2 := ⟨rfl, ⟨tw_146, tw_1, ⟨by decide +kernel, by decide +kernel⟩, by decide +kernel, by decide, by decide⟩, ⟨_, tw_144⟩, tw_145⟩
theorem e_Pa_appendWord_9 {v1 v2 : Value} {mc' ms' : Nat} {Q' : tv_R → tv_H → Prop} (hst : (st.map fun v => v.category).sum ≤ 8) (hct : tv_Ct G mm_Tc_byteOf [v1, v2] h mc' ms' Q') (hx : ∀ E h', ¬ Q' (.inr E) h') (kk : ∀ v h', Q' (.inl v) h' → tv_Ev G mm_Pa_appendWord 12 ls (v.toList ++ st) h' c z Q) : tv_Ev G mm_Pa_appendWord 9 ls (v2 :: v1 :: st) h (c + mc') (z + ms') Q := ev_invokestaticN (vs := [v1, v2]) mm_Tc_byteOf (show decode mm_Pa_appendWord.2.1 9 = .ok (.invokestatic 39, 3) by decide +kernel) lk_Pa_appendWord_9 rfl hst hct hx kk
theorem e_Pa_appendWord_12 {x : Int32} (hi2 : 3 < ls.length) (kk : tv_Ev G mm_Pa_appendWord 13 (ls.set 3 (some (.int x))) st h c z Q) : tv_Ev G mm_Pa_appendWord 12 ls (.int x :: st) h c z Q := ev_istore_n (show decode mm_Pa_appendWord.2.1 12 = .ok (.istore_n 3, 1) by decide +kernel) rfl hi2 kk
theorem e_Pa_appendWord_13 {x : Int32} (hl : ls[3]? = some (some (.int x))) (kk : tv_Ev G mm_Pa_appendWord 14 ls (.int x :: st) h c z Q) : tv_Ev G mm_Pa_appendWord 13 ls st h c z Q := ev_iload_n (show decode mm_Pa_appendWord.2.1 13 = .ok (.iload_n 3, 1) by decide +kernel) rfl hl kk
theorem e_Pa_appendWord_14 {x : Int32} (kt : x = 0 → tv_Ev G mm_Pa_appendWord 22 ls st h c z Q) (kf : ¬ (x = 0) → tv_Ev G mm_Pa_appendWord 17 ls st h c z Q) : tv_Ev G mm_Pa_appendWord 14 ls (.int x :: st) h c z Q := ev_if_eq 22 (show decode mm_Pa_appendWord.2.1 14 = .ok (.ifCond .eq (8), 3) by decide +kernel) (by decide) kt kf
theorem e_Pa_appendWord_17 {x : Nat} (hl : ls[0]? = some (some (.ref x))) (kk : tv_Ev G mm_Pa_appendWord 18 ls (.ref x :: st) h c z Q) : tv_Ev G mm_Pa_appendWord 17 ls st h c z Q := ev_aload_n (show decode mm_Pa_appendWord.2.1 17 = .ok (.aload_n 0, 1) by decide +kernel) rfl hl kk
theorem e_Pa_appendWord_18 {x : Int32} (hl : ls[3]? = some (some (.int x))) (kk : tv_Ev G mm_Pa_appendWord 19 ls (.int x :: st) h c z Q) : tv_Ev G mm_Pa_appendWord 18 ls st h c z Q := ev_iload_n (show decode mm_Pa_appendWord.2.1 18 = .ok (.iload_n 3, 1) by decide +kernel) rfl hl kk
theorem lk_Pa_appendWord_19 : tv_lkV mm_Pa_appendWord mm_Pa_append 43 1 := ⟨rfl, ⟨tw_150, tw_4, ⟨by decide +kernel, by decide +kernel⟩, by decide +kernel, by decide, by decide⟩, tw_147, tw_148, tw_149⟩
theorem e_Pa_appendWord_19 {v1 : Value} {a : Nat} {fs : List Value} {mc' ms' : Nat} {Q' : tv_R → tv_H → Prop} (hobj : h[a]? = some (2, fs)) (hst : (st.map fun v => v.category).sum ≤ 8) (hct : tv_Ct G mm_Pa_append [.ref a, v1] h mc' ms' Q') (kk : ∀ v h', Q' (.inl v) h' → tv_Ev G mm_Pa_appendWord 22 ls (v.toList ++ st) h' c z Q) (kx : ∀ E h', Q' (.inr E) h' → tv_Xv G mm_Pa_appendWord 19 ls h' c z Q E) : tv_Ev G mm_Pa_appendWord 19 ls (v1 :: .ref a :: st) h (c + mc') (z + ms') Q := ev_invokevirtual (vs := [v1]) mm_Pa_append (show decode mm_Pa_appendWord.2.1 19 = .ok (.invokevirtual 43, 3) by decide +kernel) lk_Pa_appendWord_19 rfl hobj rfl hst hct kk kx
theorem e_Pa_appendWord_22 {x : Int32} (hl : ls[2]? = some (some (.int x))) (kk : tv_Ev G mm_Pa_appendWord 25 (ls.set 2 (some (.int (x + 1)))) st h c z Q) : tv_Ev G mm_Pa_appendWord 22 ls st h c z Q := ev_iinc _ (show decode mm_Pa_appendWord.2.1 22 = .ok (.iinc 2 (1), 3) by decide +kernel) hl rfl kk
theorem e_Pa_appendWord_25 (kk : tv_Ev G mm_Pa_appendWord 2 ls st h c z Q) : tv_Ev G mm_Pa_appendWord 25 ls st h c z Q := ev_goto 2 (show decode mm_Pa_appendWord.2.1 25 = .ok (.goto (-23), 3) by decide +kernel) (by decide) kk
theorem e_Pa_appendWord_28 (hQ : Q (.inl none) h) : tv_Ev G mm_Pa_appendWord 28 ls [] h c z Q := ev_return (show decode mm_Pa_appendWord.2.1 28 = .ok (.return_, 1) by decide +kernel) rfl hQ
theorem e_Pa_isWellFormed_0 (kk : tv_Ev G mm_Pa_isWellFormed 1 ls (.int 0 :: st) h c z Q) : tv_Ev G mm_Pa_isWellFormed 0 ls st h c z Q := ev_iconst 0 (show decode mm_Pa_isWellFormed.2.1 0 = .ok (.iconst 0, 1) by decide +kernel) (by decide) kk
theorem e_Pa_isWellFormed_1 {x : Int32} (hi2 : 1 < ls.length) (kk : tv_Ev G mm_Pa_isWellFormed 2 (ls.set 1 (some (.int x))) st h c z Q) : tv_Ev G mm_Pa_isWellFormed 1 ls (.int x :: st) h c z Q := ev_istore_n (show decode mm_Pa_isWellFormed.2.1 1 = .ok (.istore_n 1, 1) by decide +kernel) rfl hi2 kk
theorem e_Pa_isWellFormed_2 (kk : tv_Ev G mm_Pa_isWellFormed 3 ls (.int 0 :: st) h c z Q) : tv_Ev G mm_Pa_isWellFormed 2 ls st h c z Q := ev_iconst 0 (show decode mm_Pa_isWellFormed.2.1 2 = .ok (.iconst 0, 1) by decide +kernel) (by decide) kk
theorem e_Pa_isWellFormed_3 {x : Int32} (hi2 : 2 < ls.length) (kk : tv_Ev G mm_Pa_isWellFormed 4 (ls.set 2 (some (.int x))) st h c z Q) : tv_Ev G mm_Pa_isWellFormed 3 ls (.int x :: st) h c z Q := ev_istore_n (show decode mm_Pa_isWellFormed.2.1 3 = .ok (.istore_n 2, 1) by decide +kernel) rfl hi2 kk
theorem e_Pa_isWellFormed_4 {x : Int32} (hl : ls[2]? = some (some (.int x))) (kk : tv_Ev G mm_Pa_isWellFormed 5 ls (.int x :: st) h c z Q) : tv_Ev G mm_Pa_isWellFormed 4 ls st h c z Q := ev_iload_n (show decode mm_Pa_isWellFormed.2.1 4 = .ok (.iload_n 2, 1) by decide +kernel) rfl hl kk
theorem e_Pa_isWellFormed_5 {x : Nat} (hl : ls[0]? = some (some (.ref x))) (kk : tv_Ev G mm_Pa_isWellFormed 6 ls (.ref x :: st) h c z Q) : tv_Ev G mm_Pa_isWellFormed 5 ls st h c z Q := ev_aload_n (show decode mm_Pa_isWellFormed.2.1 5 = .ok (.aload_n 0, 1) by decide +kernel) rfl hl kk
theorem e_Pa_isWellFormed_6 {a : Nat} {fs : List Value} {v : Value} (hh : h[a]? = some (2, fs)) (hv : fs[1]? = some v) (kk : tv_Ev G mm_Pa_isWellFormed 9 ls (v :: st) h c z Q) : tv_Ev G mm_Pa_isWellFormed 6 ls (.ref a :: st) h c z Q := ev_getfield 2 1 (show decode mm_Pa_isWellFormed.2.1 6 = .ok (.getfield 15, 3) by decide +kernel) fl_Pa_15 hh hv kk
theorem e_Pa_isWellFormed_9 {x y : Int32} (kt : y ≤ x → tv_Ev G mm_Pa_isWellFormed 59 ls st h c z Q) (kf : ¬ (y ≤ x) → tv_Ev G mm_Pa_isWellFormed 12 ls st h c z Q) : tv_Ev G mm_Pa_isWellFormed 9 ls (.int y :: .int x :: st) h c z Q := ev_icmp_ge 59 (show decode mm_Pa_isWellFormed.2.1 9 = .ok (.if_icmp .ge (50), 3) by decide +kernel) (by decide) kt kf
theorem e_Pa_isWellFormed_12 {x : Nat} (hl : ls[0]? = some (some (.ref x))) (kk : tv_Ev G mm_Pa_isWellFormed 13 ls (.ref x :: st) h c z Q) : tv_Ev G mm_Pa_isWellFormed 12 ls st h c z Q := ev_aload_n (show decode mm_Pa_isWellFormed.2.1 12 = .ok (.aload_n 0, 1) by decide +kernel) rfl hl kk
theorem e_Pa_isWellFormed_13 {x : Int32} (hl : ls[2]? = some (some (.int x))) (kk : tv_Ev G mm_Pa_isWellFormed 14 ls (.int x :: st) h c z Q) : tv_Ev G mm_Pa_isWellFormed 13 ls st h c z Q := ev_iload_n (show decode mm_Pa_isWellFormed.2.1 13 = .ok (.iload_n 2, 1) by decide +kernel) rfl hl kk
theorem lk_Pa_isWellFormed_14 : tv_lkV mm_Pa_isWellFormed mm_Pa_signAt 46 1 := ⟨rfl, ⟨tw_158, tw_4, ⟨by decide +kernel, by decide +kernel⟩, by decide +kernel, by decide, by decide⟩, tw_155, tw_156, tw_157⟩
theorem e_Pa_isWellFormed_14 {v1 : Value} {a : Nat} {fs : List Value} {mc' ms' : Nat} {Q' : tv_R → tv_H → Prop} (hobj : h[a]? = some (2, fs)) (hst : (st.map fun v => v.category).sum ≤ 8) (hct : tv_Ct G mm_Pa_signAt [.ref a, v1] h mc' ms' Q') (kk : ∀ v h', Q' (.inl v) h' → tv_Ev G mm_Pa_isWellFormed 17 ls (v.toList ++ st) h' c z Q) (kx : ∀ E h', Q' (.inr E) h' → tv_Xv G mm_Pa_isWellFormed 14 ls h' c z Q E) : tv_Ev G mm_Pa_isWellFormed 14 ls (v1 :: .ref a :: st) h (c + mc') (z + ms') Q := ev_invokevirtual (vs := [v1]) mm_Pa_signAt (show decode mm_Pa_isWellFormed.2.1 14 = .ok (.invokevirtual 46, 3) by decide +kernel) lk_Pa_isWellFormed_14 rfl hobj rfl hst hct kk kx
theorem e_Pa_isWellFormed_17 {x : Int32} (hi2 : 3 < ls.length) (kk : tv_Ev G mm_Pa_isWellFormed 18 (ls.set 3 (some (.int x))) st h c z Q) : tv_Ev G mm_Pa_isWellFormed 17 ls (.int x :: st) h c z Q := ev_istore_n (show decode mm_Pa_isWellFormed.2.1 17 = .ok (.istore_n 3, 1) by decide +kernel) rfl hi2 kk
theorem e_Pa_isWellFormed_18 {x : Int32} (hl : ls[3]? = some (some (.int x))) (kk : tv_Ev G mm_Pa_isWellFormed 19 ls (.int x :: st) h c z Q) : tv_Ev G mm_Pa_isWellFormed 18 ls st h c z Q := ev_iload_n (show decode mm_Pa_isWellFormed.2.1 18 = .ok (.iload_n 3, 1) by decide +kernel) rfl hl kk
theorem e_Pa_isWellFormed_19 (kk : tv_Ev G mm_Pa_isWellFormed 21 ls (.int 47 :: st) h c z Q) : tv_Ev G mm_Pa_isWellFormed 19 ls st h c z Q := ev_bipush 47 (show decode mm_Pa_isWellFormed.2.1 19 = .ok (.bipush (47), 2) by decide +kernel) (by decide) kk
theorem e_Pa_isWellFormed_21 {x y : Int32} (kt : ¬ x = y → tv_Ev G mm_Pa_isWellFormed 33 ls st h c z Q) (kf : x = y → tv_Ev G mm_Pa_isWellFormed 24 ls st h c z Q) : tv_Ev G mm_Pa_isWellFormed 21 ls (.int y :: .int x :: st) h c z Q := ev_icmp_ne 33 (show decode mm_Pa_isWellFormed.2.1 21 = .ok (.if_icmp .ne (12), 3) by decide +kernel) (by decide) kt kf
theorem e_Pa_isWellFormed_24 {x : Int32} (hl : ls[1]? = some (some (.int x))) (kk : tv_Ev G mm_Pa_isWellFormed 25 ls (.int x :: st) h c z Q) : tv_Ev G mm_Pa_isWellFormed 24 ls st h c z Q := ev_iload_n (show decode mm_Pa_isWellFormed.2.1 24 = .ok (.iload_n 1, 1) by decide +kernel) rfl hl kk
theorem e_Pa_isWellFormed_25 {x : Int32} (kt : x ≤ 0 → tv_Ev G mm_Pa_isWellFormed 33 ls st h c z Q) (kf : ¬ (x ≤ 0) → tv_Ev G mm_Pa_isWellFormed 28 ls st h c z Q) : tv_Ev G mm_Pa_isWellFormed 25 ls (.int x :: st) h c z Q := ev_if_le 33 (show decode mm_Pa_isWellFormed.2.1 25 = .ok (.ifCond .le (8), 3) by decide +kernel) (by decide) kt kf
theorem e_Pa_isWellFormed_28 (kk : tv_Ev G mm_Pa_isWellFormed 29 ls (.int 0 :: st) h c z Q) : tv_Ev G mm_Pa_isWellFormed 28 ls st h c z Q := ev_iconst 0 (show decode mm_Pa_isWellFormed.2.1 28 = .ok (.iconst 0, 1) by decide +kernel) (by decide) kk
theorem e_Pa_isWellFormed_29 {x : Int32} (hi2 : 1 < ls.length) (kk : tv_Ev G mm_Pa_isWellFormed 30 (ls.set 1 (some (.int x))) st h c z Q) : tv_Ev G mm_Pa_isWellFormed 29 ls (.int x :: st) h c z Q := ev_istore_n (show decode mm_Pa_isWellFormed.2.1 29 = .ok (.istore_n 1, 1) by decide +kernel) rfl hi2 kk
theorem e_Pa_isWellFormed_30 (kk : tv_Ev G mm_Pa_isWellFormed 53 ls st h c z Q) : tv_Ev G mm_Pa_isWellFormed 30 ls st h c z Q := ev_goto 53 (show decode mm_Pa_isWellFormed.2.1 30 = .ok (.goto (23), 3) by decide +kernel) (by decide) kk
theorem e_Pa_isWellFormed_33 {x : Int32} (hl : ls[3]? = some (some (.int x))) (kk : tv_Ev G mm_Pa_isWellFormed 34 ls (.int x :: st) h c z Q) : tv_Ev G mm_Pa_isWellFormed 33 ls st h c z Q := ev_iload_n (show decode mm_Pa_isWellFormed.2.1 33 = .ok (.iload_n 3, 1) by decide +kernel) rfl hl kk
theorem lk_Pa_isWellFormed_34 : tv_lkS mm_Pa_isWellFormed mm_Pa_isNameSign 50 1 := ⟨rfl, ⟨tw_161, tw_4, ⟨by decide +kernel, by decide +kernel⟩, by decide +kernel, by decide, by decide⟩, tw_159, tw_160⟩
theorem e_Pa_isWellFormed_34 {v1 : Value} {mc' ms' : Nat} {Q' : tv_R → tv_H → Prop} (hst : (st.map fun v => v.category).sum ≤ 8) (hct : tv_Ct G mm_Pa_isNameSign [v1] h mc' ms' Q') (kk : ∀ v h', Q' (.inl v) h' → tv_Ev G mm_Pa_isWellFormed 37 ls (v.toList ++ st) h' c z Q) (kx : ∀ E h', Q' (.inr E) h' → tv_Xv G mm_Pa_isWellFormed 34 ls h' c z Q E) : tv_Ev G mm_Pa_isWellFormed 34 ls (v1 :: st) h (c + mc') (z + ms') Q := ev_invokestatic (vs := [v1]) mm_Pa_isNameSign (show decode mm_Pa_isWellFormed.2.1 34 = .ok (.invokestatic 50, 3) by decide +kernel) lk_Pa_isWellFormed_34 rfl hst hct kk kx
theorem e_Pa_isWellFormed_37 {x : Int32} (kt : x = 0 → tv_Ev G mm_Pa_isWellFormed 51 ls st h c z Q) (kf : ¬ (x = 0) → tv_Ev G mm_Pa_isWellFormed 40 ls st h c z Q) : tv_Ev G mm_Pa_isWellFormed 37 ls (.int x :: st) h c z Q := ev_if_eq 51 (show decode mm_Pa_isWellFormed.2.1 37 = .ok (.ifCond .eq (14), 3) by decide +kernel) (by decide) kt kf
theorem e_Pa_isWellFormed_40 {x : Int32} (hl : ls[1]? = some (some (.int x))) (kk : tv_Ev G mm_Pa_isWellFormed 41 ls (.int x :: st) h c z Q) : tv_Ev G mm_Pa_isWellFormed 40 ls st h c z Q := ev_iload_n (show decode mm_Pa_isWellFormed.2.1 40 = .ok (.iload_n 1, 1) by decide +kernel) rfl hl kk
theorem e_Pa_isWellFormed_41 (kk : tv_Ev G mm_Pa_isWellFormed 42 ls (.int 4 :: st) h c z Q) : tv_Ev G mm_Pa_isWellFormed 41 ls st h c z Q := ev_iconst 4 (show decode mm_Pa_isWellFormed.2.1 41 = .ok (.iconst 4, 1) by decide +kernel) (by decide) kk
theorem e_Pa_isWellFormed_42 {x y : Int32} (kt : y ≤ x → tv_Ev G mm_Pa_isWellFormed 51 ls st h c z Q) (kf : ¬ (y ≤ x) → tv_Ev G mm_Pa_isWellFormed 45 ls st h c z Q) : tv_Ev G mm_Pa_isWellFormed 42 ls (.int y :: .int x :: st) h c z Q := ev_icmp_ge 51 (show decode mm_Pa_isWellFormed.2.1 42 = .ok (.if_icmp .ge (9), 3) by decide +kernel) (by decide) kt kf
theorem e_Pa_isWellFormed_45 {x : Int32} (hl : ls[1]? = some (some (.int x))) (kk : tv_Ev G mm_Pa_isWellFormed 48 (ls.set 1 (some (.int (x + 1)))) st h c z Q) : tv_Ev G mm_Pa_isWellFormed 45 ls st h c z Q := ev_iinc _ (show decode mm_Pa_isWellFormed.2.1 45 = .ok (.iinc 1 (1), 3) by decide +kernel) hl rfl kk
theorem e_Pa_isWellFormed_48 (kk : tv_Ev G mm_Pa_isWellFormed 53 ls st h c z Q) : tv_Ev G mm_Pa_isWellFormed 48 ls st h c z Q := ev_goto 53 (show decode mm_Pa_isWellFormed.2.1 48 = .ok (.goto (5), 3) by decide +kernel) (by decide) kk
theorem e_Pa_isWellFormed_51 (kk : tv_Ev G mm_Pa_isWellFormed 52 ls (.int 0 :: st) h c z Q) : tv_Ev G mm_Pa_isWellFormed 51 ls st h c z Q := ev_iconst 0 (show decode mm_Pa_isWellFormed.2.1 51 = .ok (.iconst 0, 1) by decide +kernel) (by decide) kk
theorem e_Pa_isWellFormed_52 {x : Int32} (hx : x = 0 ∨ x = 1) (hQ : Q (.inl (some (.int x))) h) : tv_Ev G mm_Pa_isWellFormed 52 ls [.int x] h c z Q := ev_zreturn (show decode mm_Pa_isWellFormed.2.1 52 = .ok (.ireturn, 1) by decide +kernel) rfl hx hQ
theorem e_Pa_isWellFormed_53 {x : Int32} (hl : ls[2]? = some (some (.int x))) (kk : tv_Ev G mm_Pa_isWellFormed 56 (ls.set 2 (some (.int (x + 1)))) st h c z Q) : tv_Ev G mm_Pa_isWellFormed 53 ls st h c z Q := ev_iinc _ (show decode mm_Pa_isWellFormed.2.1 53 = .ok (.iinc 2 (1), 3) by decide +kernel) hl rfl kk
theorem e_Pa_isWellFormed_56 (kk : tv_Ev G mm_Pa_isWellFormed 4 ls st h c z Q) : tv_Ev G mm_Pa_isWellFormed 56 ls st h c z Q := ev_goto 4 (show decode mm_Pa_isWellFormed.2.1 56 = .ok (.goto (-52), 3) by decide +kernel) (by decide) kk
theorem e_Pa_isWellFormed_59 {x : Int32} (hl : ls[1]? = some (some (.int x))) (kk : tv_Ev G mm_Pa_isWellFormed 60 ls (.int x :: st) h c z Q) : tv_Ev G mm_Pa_isWellFormed 59 ls st h c z Q := ev_iload_n (show decode mm_Pa_isWellFormed.2.1 59 = .ok (.iload_n 1, 1) by decide +kernel) rfl hl kk
theorem e_Pa_isWellFormed_60 {x : Int32} (kt : x ≤ 0 → tv_Ev G mm_Pa_isWellFormed 75 ls st h c z Q) (kf : ¬ (x ≤ 0) → tv_Ev G mm_Pa_isWellFormed 63 ls st h c z Q) : tv_Ev G mm_Pa_isWellFormed 60 ls (.int x :: st) h c z Q := ev_if_le 75 (show decode mm_Pa_isWellFormed.2.1 60 = .ok (.ifCond .le (15), 3) by decide +kernel) (by decide) kt kf
theorem e_Pa_isWellFormed_63 {x : Nat} (hl : ls[0]? = some (some (.ref x))) (kk : tv_Ev G mm_Pa_isWellFormed 64 ls (.ref x :: st) h c z Q) : tv_Ev G mm_Pa_isWellFormed 63 ls st h c z Q := ev_aload_n (show decode mm_Pa_isWellFormed.2.1 63 = .ok (.aload_n 0, 1) by decide +kernel) rfl hl kk
theorem lk_Pa_isWellFormed_64 : tv_lkV mm_Pa_isWellFormed mm_Pa_names 54 0 := ⟨rfl, ⟨tw_165, tw_4, ⟨by decide +kernel, by decide +kernel⟩, by decide +kernel, by decide, by decide⟩, tw_162, tw_163, tw_164⟩
theorem e_Pa_isWellFormed_64 {a : Nat} {fs : List Value} {mc' ms' : Nat} {Q' : tv_R → tv_H → Prop} (hobj : h[a]? = some (2, fs)) (hst : (st.map fun v => v.category).sum ≤ 8) (hct : tv_Ct G mm_Pa_names [.ref a] h mc' ms' Q') (kk : ∀ v h', Q' (.inl v) h' → tv_Ev G mm_Pa_isWellFormed 67 ls (v.toList ++ st) h' c z Q) (kx : ∀ E h', Q' (.inr E) h' → tv_Xv G mm_Pa_isWellFormed 64 ls h' c z Q E) : tv_Ev G mm_Pa_isWellFormed 64 ls (.ref a :: st) h (c + mc') (z + ms') Q := ev_invokevirtual (vs := []) mm_Pa_names (show decode mm_Pa_isWellFormed.2.1 64 = .ok (.invokevirtual 54, 3) by decide +kernel) lk_Pa_isWellFormed_64 rfl hobj rfl hst hct kk kx
theorem e_Pa_isWellFormed_67 (kk : tv_Ev G mm_Pa_isWellFormed 68 ls (.int 4 :: st) h c z Q) : tv_Ev G mm_Pa_isWellFormed 67 ls st h c z Q := ev_iconst 4 (show decode mm_Pa_isWellFormed.2.1 67 = .ok (.iconst 4, 1) by decide +kernel) (by decide) kk
theorem e_Pa_isWellFormed_68 {x y : Int32} (kt : y < x → tv_Ev G mm_Pa_isWellFormed 75 ls st h c z Q) (kf : ¬ (y < x) → tv_Ev G mm_Pa_isWellFormed 71 ls st h c z Q) : tv_Ev G mm_Pa_isWellFormed 68 ls (.int y :: .int x :: st) h c z Q := ev_icmp_gt 75 (show decode mm_Pa_isWellFormed.2.1 68 = .ok (.if_icmp .gt (7), 3) by decide +kernel) (by decide) kt kf
theorem e_Pa_isWellFormed_71 (kk : tv_Ev G mm_Pa_isWellFormed 72 ls (.int 1 :: st) h c z Q) : tv_Ev G mm_Pa_isWellFormed 71 ls st h c z Q := ev_iconst 1 (show decode mm_Pa_isWellFormed.2.1 71 = .ok (.iconst 1, 1) by decide +kernel) (by decide) kk
theorem e_Pa_isWellFormed_72 (kk : tv_Ev G mm_Pa_isWellFormed 76 ls st h c z Q) : tv_Ev G mm_Pa_isWellFormed 72 ls st h c z Q := ev_goto 76 (show decode mm_Pa_isWellFormed.2.1 72 = .ok (.goto (4), 3) by decide +kernel) (by decide) kk
theorem e_Pa_isWellFormed_75 (kk : tv_Ev G mm_Pa_isWellFormed 76 ls (.int 0 :: st) h c z Q) : tv_Ev G mm_Pa_isWellFormed 75 ls st h c z Q := ev_iconst 0 (show decode mm_Pa_isWellFormed.2.1 75 = .ok (.iconst 0, 1) by decide +kernel) (by decide) kk
theorem e_Pa_isWellFormed_76 {x : Int32} (hx : x = 0 ∨ x = 1) (hQ : Q (.inl (some (.int x))) h) : tv_Ev G mm_Pa_isWellFormed 76 ls [.int x] h c z Q := ev_zreturn (show decode mm_Pa_isWellFormed.2.1 76 = .ok (.ireturn, 1) by decide +kernel) rfl hx hQ
theorem e_Pa_isNameSign_0 {x : Int32} (hl : ls[0]? = some (some (.int x))) (kk : tv_Ev G mm_Pa_isNameSign 1 ls (.int x :: st) h c z Q) : tv_Ev G mm_Pa_isNameSign 0 ls st h c z Q := ev_iload_n (show decode mm_Pa_isNameSign.2.1 0 = .ok (.iload_n 0, 1) by decide +kernel) rfl hl kk
theorem e_Pa_isNameSign_1 (kk : tv_Ev G mm_Pa_isNameSign 3 ls (.int 97 :: st) h c z Q) : tv_Ev G mm_Pa_isNameSign 1 ls st h c z Q := ev_bipush 97 (show decode mm_Pa_isNameSign.2.1 1 = .ok (.bipush (97), 2) by decide +kernel) (by decide) kk
theorem e_Pa_isNameSign_3 {x y : Int32} (kt : x < y → tv_Ev G mm_Pa_isNameSign 12 ls st h c z Q) (kf : ¬ (x < y) → tv_Ev G mm_Pa_isNameSign 6 ls st h c z Q) : tv_Ev G mm_Pa_isNameSign 3 ls (.int y :: .int x :: st) h c z Q := ev_icmp_lt 12 (show decode mm_Pa_isNameSign.2.1 3 = .ok (.if_icmp .lt (9), 3) by decide +kernel) (by decide) kt kf
theorem e_Pa_isNameSign_6 {x : Int32} (hl : ls[0]? = some (some (.int x))) (kk : tv_Ev G mm_Pa_isNameSign 7 ls (.int x :: st) h c z Q) : tv_Ev G mm_Pa_isNameSign 6 ls st h c z Q := ev_iload_n (show decode mm_Pa_isNameSign.2.1 6 = .ok (.iload_n 0, 1) by decide +kernel) rfl hl kk
theorem e_Pa_isNameSign_7 (kk : tv_Ev G mm_Pa_isNameSign 9 ls (.int 122 :: st) h c z Q) : tv_Ev G mm_Pa_isNameSign 7 ls st h c z Q := ev_bipush 122 (show decode mm_Pa_isNameSign.2.1 7 = .ok (.bipush (122), 2) by decide +kernel) (by decide) kk
theorem e_Pa_isNameSign_9 {x y : Int32} (kt : x ≤ y → tv_Ev G mm_Pa_isNameSign 24 ls st h c z Q) (kf : ¬ (x ≤ y) → tv_Ev G mm_Pa_isNameSign 12 ls st h c z Q) : tv_Ev G mm_Pa_isNameSign 9 ls (.int y :: .int x :: st) h c z Q := ev_icmp_le 24 (show decode mm_Pa_isNameSign.2.1 9 = .ok (.if_icmp .le (15), 3) by decide +kernel) (by decide) kt kf
theorem e_Pa_isNameSign_12 {x : Int32} (hl : ls[0]? = some (some (.int x))) (kk : tv_Ev G mm_Pa_isNameSign 13 ls (.int x :: st) h c z Q) : tv_Ev G mm_Pa_isNameSign 12 ls st h c z Q := ev_iload_n (show decode mm_Pa_isNameSign.2.1 12 = .ok (.iload_n 0, 1) by decide +kernel) rfl hl kk
theorem e_Pa_isNameSign_13 (kk : tv_Ev G mm_Pa_isNameSign 15 ls (.int 48 :: st) h c z Q) : tv_Ev G mm_Pa_isNameSign 13 ls st h c z Q := ev_bipush 48 (show decode mm_Pa_isNameSign.2.1 13 = .ok (.bipush (48), 2) by decide +kernel) (by decide) kk
theorem e_Pa_isNameSign_15 {x y : Int32} (kt : x < y → tv_Ev G mm_Pa_isNameSign 28 ls st h c z Q) (kf : ¬ (x < y) → tv_Ev G mm_Pa_isNameSign 18 ls st h c z Q) : tv_Ev G mm_Pa_isNameSign 15 ls (.int y :: .int x :: st) h c z Q := ev_icmp_lt 28 (show decode mm_Pa_isNameSign.2.1 15 = .ok (.if_icmp .lt (13), 3) by decide +kernel) (by decide) kt kf
theorem e_Pa_isNameSign_18 {x : Int32} (hl : ls[0]? = some (some (.int x))) (kk : tv_Ev G mm_Pa_isNameSign 19 ls (.int x :: st) h c z Q) : tv_Ev G mm_Pa_isNameSign 18 ls st h c z Q := ev_iload_n (show decode mm_Pa_isNameSign.2.1 18 = .ok (.iload_n 0, 1) by decide +kernel) rfl hl kk
theorem e_Pa_isNameSign_19 (kk : tv_Ev G mm_Pa_isNameSign 21 ls (.int 57 :: st) h c z Q) : tv_Ev G mm_Pa_isNameSign 19 ls st h c z Q := ev_bipush 57 (show decode mm_Pa_isNameSign.2.1 19 = .ok (.bipush (57), 2) by decide +kernel) (by decide) kk
theorem e_Pa_isNameSign_21 {x y : Int32} (kt : y < x → tv_Ev G mm_Pa_isNameSign 28 ls st h c z Q) (kf : ¬ (y < x) → tv_Ev G mm_Pa_isNameSign 24 ls st h c z Q) : tv_Ev G mm_Pa_isNameSign 21 ls (.int y :: .int x :: st) h c z Q := ev_icmp_gt 28 (show decode mm_Pa_isNameSign.2.1 21 = .ok (.if_icmp .gt (7), 3) by decide +kernel) (by decide) kt kf
theorem e_Pa_isNameSign_24 (kk : tv_Ev G mm_Pa_isNameSign 25 ls (.int 1 :: st) h c z Q) : tv_Ev G mm_Pa_isNameSign 24 ls st h c z Q := ev_iconst 1 (show decode mm_Pa_isNameSign.2.1 24 = .ok (.iconst 1, 1) by decide +kernel) (by decide) kk
theorem e_Pa_isNameSign_25 (kk : tv_Ev G mm_Pa_isNameSign 29 ls st h c z Q) : tv_Ev G mm_Pa_isNameSign 25 ls st h c z Q := ev_goto 29 (show decode mm_Pa_isNameSign.2.1 25 = .ok (.goto (4), 3) by decide +kernel) (by decide) kk
theorem e_Pa_isNameSign_28 (kk : tv_Ev G mm_Pa_isNameSign 29 ls (.int 0 :: st) h c z Q) : tv_Ev G mm_Pa_isNameSign 28 ls st h c z Q := ev_iconst 0 (show decode mm_Pa_isNameSign.2.1 28 = .ok (.iconst 0, 1) by decide +kernel) (by decide) kk
theorem e_Pa_isNameSign_29 {x : Int32} (hx : x = 0 ∨ x = 1) (hQ : Q (.inl (some (.int x))) h) : tv_Ev G mm_Pa_isNameSign 29 ls [.int x] h c z Q := ev_zreturn (show decode mm_Pa_isNameSign.2.1 29 = .ok (.ireturn, 1) by decide +kernel) rfl hx hQ
theorem e_Pa_signAt_0 {x : Int32} (hl : ls[1]? = some (some (.int x))) (kk : tv_Ev G mm_Pa_signAt 1 ls (.int x :: st) h c z Q) : tv_Ev G mm_Pa_signAt 0 ls st h c z Q := ev_iload_n (show decode mm_Pa_signAt.2.1 0 = .ok (.iload_n 1, 1) by decide +kernel) rfl hl kk
theorem e_Pa_signAt_1 {x : Int32} (kt : x < 0 → tv_Ev G mm_Pa_signAt 27 ls st h c z Q) (kf : ¬ (x < 0) → tv_Ev G mm_Pa_signAt 4 ls st h c z Q) : tv_Ev G mm_Pa_signAt 1 ls (.int x :: st) h c z Q := ev_if_lt 27 (show decode mm_Pa_signAt.2.1 1 = .ok (.ifCond .lt (26), 3) by decide +kernel) (by decide) kt kf
theorem e_Pa_signAt_4 {x : Int32} (hl : ls[1]? = some (some (.int x))) (kk : tv_Ev G mm_Pa_signAt 5 ls (.int x :: st) h c z Q) : tv_Ev G mm_Pa_signAt 4 ls st h c z Q := ev_iload_n (show decode mm_Pa_signAt.2.1 4 = .ok (.iload_n 1, 1) by decide +kernel) rfl hl kk
theorem e_Pa_signAt_5 {x : Nat} (hl : ls[0]? = some (some (.ref x))) (kk : tv_Ev G mm_Pa_signAt 6 ls (.ref x :: st) h c z Q) : tv_Ev G mm_Pa_signAt 5 ls st h c z Q := ev_aload_n (show decode mm_Pa_signAt.2.1 5 = .ok (.aload_n 0, 1) by decide +kernel) rfl hl kk
theorem e_Pa_signAt_6 {a : Nat} {fs : List Value} {v : Value} (hh : h[a]? = some (2, fs)) (hv : fs[1]? = some v) (kk : tv_Ev G mm_Pa_signAt 9 ls (v :: st) h c z Q) : tv_Ev G mm_Pa_signAt 6 ls (.ref a :: st) h c z Q := ev_getfield 2 1 (show decode mm_Pa_signAt.2.1 6 = .ok (.getfield 15, 3) by decide +kernel) fl_Pa_15 hh hv kk
theorem e_Pa_signAt_9 {x y : Int32} (kt : y ≤ x → tv_Ev G mm_Pa_signAt 27 ls st h c z Q) (kf : ¬ (y ≤ x) → tv_Ev G mm_Pa_signAt 12 ls st h c z Q) : tv_Ev G mm_Pa_signAt 9 ls (.int y :: .int x :: st) h c z Q := ev_icmp_ge 27 (show decode mm_Pa_signAt.2.1 9 = .ok (.if_icmp .ge (18), 3) by decide +kernel) (by decide) kt kf
theorem e_Pa_signAt_12 {x : Int32} (hl : ls[1]? = some (some (.int x))) (kk : tv_Ev G mm_Pa_signAt 13 ls (.int x :: st) h c z Q) : tv_Ev G mm_Pa_signAt 12 ls st h c z Q := ev_iload_n (show decode mm_Pa_signAt.2.1 12 = .ok (.iload_n 1, 1) by decide +kernel) rfl hl kk
theorem e_Pa_signAt_13 (kk : tv_Ev G mm_Pa_signAt 15 ls (.int 19 :: st) h c z Q) : tv_Ev G mm_Pa_signAt 13 ls st h c z Q := ev_bipush 19 (show decode mm_Pa_signAt.2.1 13 = .ok (.bipush (19), 2) by decide +kernel) (by decide) kk
theorem e_Pa_signAt_15 {x y : Int32} (kt : y ≤ x → tv_Ev G mm_Pa_signAt 27 ls st h c z Q) (kf : ¬ (y ≤ x) → tv_Ev G mm_Pa_signAt 18 ls st h c z Q) : tv_Ev G mm_Pa_signAt 15 ls (.int y :: .int x :: st) h c z Q := ev_icmp_ge 27 (show decode mm_Pa_signAt.2.1 15 = .ok (.if_icmp .ge (12), 3) by decide +kernel) (by decide) kt kf
theorem e_Pa_signAt_18 {x : Nat} (hl : ls[0]? = some (some (.ref x))) (kk : tv_Ev G mm_Pa_signAt 19 ls (.ref x :: st) h c z Q) : tv_Ev G mm_Pa_signAt 18 ls st h c z Q := ev_aload_n (show decode mm_Pa_signAt.2.1 18 = .ok (.aload_n 0, 1) by decide +kernel) rfl hl kk
theorem e_Pa_signAt_19 {a : Nat} {fs : List Value} {v : Value} (hh : h[a]? = some (2, fs)) (hv : fs[0]? = some v) (kk : tv_Ev G mm_Pa_signAt 22 ls (v :: st) h c z Q) : tv_Ev G mm_Pa_signAt 19 ls (.ref a :: st) h c z Q := ev_getfield 2 0 (show decode mm_Pa_signAt.2.1 19 = .ok (.getfield 9, 3) by decide +kernel) fl_Pa_9 hh hv kk
theorem e_Pa_signAt_22 {x : Int32} (hl : ls[1]? = some (some (.int x))) (kk : tv_Ev G mm_Pa_signAt 23 ls (.int x :: st) h c z Q) : tv_Ev G mm_Pa_signAt 22 ls st h c z Q := ev_iload_n (show decode mm_Pa_signAt.2.1 22 = .ok (.iload_n 1, 1) by decide +kernel) rfl hl kk
theorem e_Pa_signAt_23 {a : Nat} {fs : List Value} {i : Int32} (j : Nat) {v : Value} (hh : h[a]? = some (100, fs)) (hi : i = nI j) (hj : fs[j]? = some v) (hl : fs.length < 2 ^ 31) (kk : tv_Ev G mm_Pa_signAt 24 ls (v :: st) h c z Q) : tv_Ev G mm_Pa_signAt 23 ls (.int i :: .ref a :: st) h c z Q := ev_baload j (show decode mm_Pa_signAt.2.1 23 = .ok (.baload, 1) by decide +kernel) hh hi hj hl kk
theorem e_Pa_signAt_24 (kk : tv_Ev G mm_Pa_signAt 28 ls st h c z Q) : tv_Ev G mm_Pa_signAt 24 ls st h c z Q := ev_goto 28 (show decode mm_Pa_signAt.2.1 24 = .ok (.goto (4), 3) by decide +kernel) (by decide) kk
theorem e_Pa_signAt_27 (kk : tv_Ev G mm_Pa_signAt 28 ls (.int (-1) :: st) h c z Q) : tv_Ev G mm_Pa_signAt 27 ls st h c z Q := ev_iconst (-1) (show decode mm_Pa_signAt.2.1 27 = .ok (.iconst (-1), 1) by decide +kernel) (by decide) kk
theorem e_Pa_signAt_28 {x : Int32} (hQ : Q (.inl (some (.int x))) h) : tv_Ev G mm_Pa_signAt 28 ls [.int x] h c z Q := ev_ireturn (show decode mm_Pa_signAt.2.1 28 = .ok (.ireturn, 1) by decide +kernel) rfl hQ
theorem e_Pa_names_0 (kk : tv_Ev G mm_Pa_names 1 ls (.int 0 :: st) h c z Q) : tv_Ev G mm_Pa_names 0 ls st h c z Q := ev_iconst 0 (show decode mm_Pa_names.2.1 0 = .ok (.iconst 0, 1) by decide +kernel) (by decide) kk
theorem e_Pa_names_1 {x : Int32} (hi2 : 1 < ls.length) (kk : tv_Ev G mm_Pa_names 2 (ls.set 1 (some (.int x))) st h c z Q) : tv_Ev G mm_Pa_names 1 ls (.int x :: st) h c z Q := ev_istore_n (show decode mm_Pa_names.2.1 1 = .ok (.istore_n 1, 1) by decide +kernel) rfl hi2 kk
theorem e_Pa_names_2 (kk : tv_Ev G mm_Pa_names 3 ls (.int 0 :: st) h c z Q) : tv_Ev G mm_Pa_names 2 ls st h c z Q := ev_iconst 0 (show decode mm_Pa_names.2.1 2 = .ok (.iconst 0, 1) by decide +kernel) (by decide) kk
theorem e_Pa_names_3 {x : Int32} (hi2 : 2 < ls.length) (kk : tv_Ev G mm_Pa_names 4 (ls.set 2 (some (.int x))) st h c z Q) : tv_Ev G mm_Pa_names 3 ls (.int x :: st) h c z Q := ev_istore_n (show decode mm_Pa_names.2.1 3 = .ok (.istore_n 2, 1) by decide +kernel) rfl hi2 kk
theorem e_Pa_names_4 {x : Int32} (hl : ls[2]? = some (some (.int x))) (kk : tv_Ev G mm_Pa_names 5 ls (.int x :: st) h c z Q) : tv_Ev G mm_Pa_names 4 ls st h c z Q := ev_iload_n (show decode mm_Pa_names.2.1 4 = .ok (.iload_n 2, 1) by decide +kernel) rfl hl kk
theorem e_Pa_names_5 {x : Nat} (hl : ls[0]? = some (some (.ref x))) (kk : tv_Ev G mm_Pa_names 6 ls (.ref x :: st) h c z Q) : tv_Ev G mm_Pa_names 5 ls st h c z Q := ev_aload_n (show decode mm_Pa_names.2.1 5 = .ok (.aload_n 0, 1) by decide +kernel) rfl hl kk
theorem e_Pa_names_6 {a : Nat} {fs : List Value} {v : Value} (hh : h[a]? = some (2, fs)) (hv : fs[1]? = some v) (kk : tv_Ev G mm_Pa_names 9 ls (v :: st) h c z Q) : tv_Ev G mm_Pa_names 6 ls (.ref a :: st) h c z Q := ev_getfield 2 1 (show decode mm_Pa_names.2.1 6 = .ok (.getfield 15, 3) by decide +kernel) fl_Pa_15 hh hv kk
theorem e_Pa_names_9 {x y : Int32} (kt : y ≤ x → tv_Ev G mm_Pa_names 31 ls st h c z Q) (kf : ¬ (y ≤ x) → tv_Ev G mm_Pa_names 12 ls st h c z Q) : tv_Ev G mm_Pa_names 9 ls (.int y :: .int x :: st) h c z Q := ev_icmp_ge 31 (show decode mm_Pa_names.2.1 9 = .ok (.if_icmp .ge (22), 3) by decide +kernel) (by decide) kt kf
theorem e_Pa_names_12 {x : Nat} (hl : ls[0]? = some (some (.ref x))) (kk : tv_Ev G mm_Pa_names 13 ls (.ref x :: st) h c z Q) : tv_Ev G mm_Pa_names 12 ls st h c z Q := ev_aload_n (show decode mm_Pa_names.2.1 12 = .ok (.aload_n 0, 1) by decide +kernel) rfl hl kk
theorem e_Pa_names_13 {x : Int32} (hl : ls[2]? = some (some (.int x))) (kk : tv_Ev G mm_Pa_names 14 ls (.int x :: st) h c z Q) : tv_Ev G mm_Pa_names 13 ls st h c z Q := ev_iload_n (show decode mm_Pa_names.2.1 13 = .ok (.iload_n 2, 1) by decide +kernel) rfl hl kk
theorem lk_Pa_names_14 : tv_lkV mm_Pa_names mm_Pa_signAt 46 1 := ⟨rfl, ⟨tw_158, tw_4, ⟨by decide +kernel, by decide +kernel⟩, by decide +kernel, by decide, by decide⟩, tw_155, tw_156, tw_157⟩
theorem e_Pa_names_14 {v1 : Value} {a : Nat} {fs : List Value} {mc' ms' : Nat} {Q' : tv_R → tv_H → Prop} (hobj : h[a]? = some (2, fs)) (hst : (st.map fun v => v.category).sum ≤ 8) (hct : tv_Ct G mm_Pa_signAt [.ref a, v1] h mc' ms' Q') (kk : ∀ v h', Q' (.inl v) h' → tv_Ev G mm_Pa_names 17 ls (v.toList ++ st) h' c z Q) (kx : ∀ E h', Q' (.inr E) h' → tv_Xv G mm_Pa_names 14 ls h' c z Q E) : tv_Ev G mm_Pa_names 14 ls (v1 :: .ref a :: st) h (c + mc') (z + ms') Q := ev_invokevirtual (vs := [v1]) mm_Pa_signAt (show decode mm_Pa_names.2.1 14 = .ok (.invokevirtual 46, 3) by decide +kernel) lk_Pa_names_14 rfl hobj rfl hst hct kk kx
theorem e_Pa_names_17 (kk : tv_Ev G mm_Pa_names 19 ls (.int 47 :: st) h c z Q) : tv_Ev G mm_Pa_names 17 ls st h c z Q := ev_bipush 47 (show decode mm_Pa_names.2.1 17 = .ok (.bipush (47), 2) by decide +kernel) (by decide) kk
theorem e_Pa_names_19 {x y : Int32} (kt : ¬ x = y → tv_Ev G mm_Pa_names 25 ls st h c z Q) (kf : x = y → tv_Ev G mm_Pa_names 22 ls st h c z Q) : tv_Ev G mm_Pa_names 19 ls (.int y :: .int x :: st) h c z Q := ev_icmp_ne 25 (show decode mm_Pa_names.2.1 19 = .ok (.if_icmp .ne (6), 3) by decide +kernel) (by decide) kt kf
theorem e_Pa_names_22 {x : Int32} (hl : ls[1]? = some (some (.int x))) (kk : tv_Ev G mm_Pa_names 25 (ls.set 1 (some (.int (x + 1)))) st h c z Q) : tv_Ev G mm_Pa_names 22 ls st h c z Q := ev_iinc _ (show decode mm_Pa_names.2.1 22 = .ok (.iinc 1 (1), 3) by decide +kernel) hl rfl kk
theorem e_Pa_names_25 {x : Int32} (hl : ls[2]? = some (some (.int x))) (kk : tv_Ev G mm_Pa_names 28 (ls.set 2 (some (.int (x + 1)))) st h c z Q) : tv_Ev G mm_Pa_names 25 ls st h c z Q := ev_iinc _ (show decode mm_Pa_names.2.1 25 = .ok (.iinc 2 (1), 3) by decide +kernel) hl rfl kk
theorem e_Pa_names_28 (kk : tv_Ev G mm_Pa_names 4 ls st h c z Q) : tv_Ev G mm_Pa_names 28 ls st h c z Q := ev_goto 4 (show decode mm_Pa_names.2.1 28 = .ok (.goto (-24), 3) by decide +kernel) (by decide) kk
theorem e_Pa_names_31 {x : Nat} (hl : ls[0]? = some (some (.ref x))) (kk : tv_Ev G mm_Pa_names 32 ls (.ref x :: st) h c z Q) : tv_Ev G mm_Pa_names 31 ls st h c z Q := ev_aload_n (show decode mm_Pa_names.2.1 31 = .ok (.aload_n 0, 1) by decide +kernel) rfl hl kk
theorem lk_Pa_names_32 : tv_lkV mm_Pa_names mm_Pa_isNone 36 0 := ⟨rfl, ⟨tw_169, tw_4, ⟨by decide +kernel, by decide +kernel⟩, by decide +kernel, by decide, by decide⟩, tw_166, tw_167, tw_168⟩
theorem e_Pa_names_32 {a : Nat} {fs : List Value} {mc' ms' : Nat} {Q' : tv_R → tv_H → Prop} (hobj : h[a]? = some (2, fs)) (hst : (st.map fun v => v.category).sum ≤ 8) (hct : tv_Ct G mm_Pa_isNone [.ref a] h mc' ms' Q') (kk : ∀ v h', Q' (.inl v) h' → tv_Ev G mm_Pa_names 35 ls (v.toList ++ st) h' c z Q) (kx : ∀ E h', Q' (.inr E) h' → tv_Xv G mm_Pa_names 32 ls h' c z Q E) : tv_Ev G mm_Pa_names 32 ls (.ref a :: st) h (c + mc') (z + ms') Q := ev_invokevirtual (vs := []) mm_Pa_isNone (show decode mm_Pa_names.2.1 32 = .ok (.invokevirtual 36, 3) by decide +kernel) lk_Pa_names_32 rfl hobj rfl hst hct kk kx
theorem e_Pa_names_35 {x : Int32} (kt : x = 0 → tv_Ev G mm_Pa_names 42 ls st h c z Q) (kf : ¬ (x = 0) → tv_Ev G mm_Pa_names 38 ls st h c z Q) : tv_Ev G mm_Pa_names 35 ls (.int x :: st) h c z Q := ev_if_eq 42 (show decode mm_Pa_names.2.1 35 = .ok (.ifCond .eq (7), 3) by decide +kernel) (by decide) kt kf
theorem e_Pa_names_38 (kk : tv_Ev G mm_Pa_names 39 ls (.int 0 :: st) h c z Q) : tv_Ev G mm_Pa_names 38 ls st h c z Q := ev_iconst 0 (show decode mm_Pa_names.2.1 38 = .ok (.iconst 0, 1) by decide +kernel) (by decide) kk
theorem e_Pa_names_39 (kk : tv_Ev G mm_Pa_names 45 ls st h c z Q) : tv_Ev G mm_Pa_names 39 ls st h c z Q := ev_goto 45 (show decode mm_Pa_names.2.1 39 = .ok (.goto (6), 3) by decide +kernel) (by decide) kk
theorem e_Pa_names_42 {x : Int32} (hl : ls[1]? = some (some (.int x))) (kk : tv_Ev G mm_Pa_names 43 ls (.int x :: st) h c z Q) : tv_Ev G mm_Pa_names 42 ls st h c z Q := ev_iload_n (show decode mm_Pa_names.2.1 42 = .ok (.iload_n 1, 1) by decide +kernel) rfl hl kk
theorem e_Pa_names_43 (kk : tv_Ev G mm_Pa_names 44 ls (.int 1 :: st) h c z Q) : tv_Ev G mm_Pa_names 43 ls st h c z Q := ev_iconst 1 (show decode mm_Pa_names.2.1 43 = .ok (.iconst 1, 1) by decide +kernel) (by decide) kk
theorem e_Pa_names_44 {x y : Int32} (kk : tv_Ev G mm_Pa_names 45 ls (.int (x + y) :: st) h c z Q) : tv_Ev G mm_Pa_names 44 ls (.int y :: .int x :: st) h c z Q := ev_iadd (show decode mm_Pa_names.2.1 44 = .ok (.iadd, 1) by decide +kernel) kk
theorem e_Pa_names_45 {x : Int32} (hQ : Q (.inl (some (.int x))) h) : tv_Ev G mm_Pa_names 45 ls [.int x] h c z Q := ev_ireturn (show decode mm_Pa_names.2.1 45 = .ok (.ireturn, 1) by decide +kernel) rfl hQ
theorem e_Pa_shorter_0 {x : Nat} (hl : ls[0]? = some (some (.ref x))) (kk : tv_Ev G mm_Pa_shorter 1 ls (.ref x :: st) h c z Q) : tv_Ev G mm_Pa_shorter 0 ls st h c z Q := ev_aload_n (show decode mm_Pa_shorter.2.1 0 = .ok (.aload_n 0, 1) by decide +kernel) rfl hl kk
theorem e_Pa_shorter_1 {a : Nat} {fs : List Value} {v : Value} (hh : h[a]? = some (2, fs)) (hv : fs[1]? = some v) (kk : tv_Ev G mm_Pa_shorter 4 ls (v :: st) h c z Q) : tv_Ev G mm_Pa_shorter 1 ls (.ref a :: st) h c z Q := ev_getfield 2 1 (show decode mm_Pa_shorter.2.1 1 = .ok (.getfield 15, 3) by decide +kernel) fl_Pa_15 hh hv kk
theorem e_Pa_shorter_4 (kk : tv_Ev G mm_Pa_shorter 5 ls (.int 1 :: st) h c z Q) : tv_Ev G mm_Pa_shorter 4 ls st h c z Q := ev_iconst 1 (show decode mm_Pa_shorter.2.1 4 = .ok (.iconst 1, 1) by decide +kernel) (by decide) kk
theorem e_Pa_shorter_5 {x y : Int32} (kk : tv_Ev G mm_Pa_shorter 6 ls (.int (x - y) :: st) h c z Q) : tv_Ev G mm_Pa_shorter 5 ls (.int y :: .int x :: st) h c z Q := ev_isub (show decode mm_Pa_shorter.2.1 5 = .ok (.isub, 1) by decide +kernel) kk
theorem e_Pa_shorter_6 {x : Int32} (hi2 : 1 < ls.length) (kk : tv_Ev G mm_Pa_shorter 7 (ls.set 1 (some (.int x))) st h c z Q) : tv_Ev G mm_Pa_shorter 6 ls (.int x :: st) h c z Q := ev_istore_n (show decode mm_Pa_shorter.2.1 6 = .ok (.istore_n 1, 1) by decide +kernel) rfl hi2 kk
theorem e_Pa_shorter_7 {x : Int32} (hl : ls[1]? = some (some (.int x))) (kk : tv_Ev G mm_Pa_shorter 8 ls (.int x :: st) h c z Q) : tv_Ev G mm_Pa_shorter 7 ls st h c z Q := ev_iload_n (show decode mm_Pa_shorter.2.1 7 = .ok (.iload_n 1, 1) by decide +kernel) rfl hl kk
theorem e_Pa_shorter_8 {x : Int32} (kt : x ≤ 0 → tv_Ev G mm_Pa_shorter 29 ls st h c z Q) (kf : ¬ (x ≤ 0) → tv_Ev G mm_Pa_shorter 11 ls st h c z Q) : tv_Ev G mm_Pa_shorter 8 ls (.int x :: st) h c z Q := ev_if_le 29 (show decode mm_Pa_shorter.2.1 8 = .ok (.ifCond .le (21), 3) by decide +kernel) (by decide) kt kf
theorem e_Pa_shorter_11 {x : Nat} (hl : ls[0]? = some (some (.ref x))) (kk : tv_Ev G mm_Pa_shorter 12 ls (.ref x :: st) h c z Q) : tv_Ev G mm_Pa_shorter 11 ls st h c z Q := ev_aload_n (show decode mm_Pa_shorter.2.1 11 = .ok (.aload_n 0, 1) by decide +kernel) rfl hl kk
theorem e_Pa_shorter_12 {x : Int32} (hl : ls[1]? = some (some (.int x))) (kk : tv_Ev G mm_Pa_shorter 13 ls (.int x :: st) h c z Q) : tv_Ev G mm_Pa_shorter 12 ls st h c z Q := ev_iload_n (show decode mm_Pa_shorter.2.1 12 = .ok (.iload_n 1, 1) by decide +kernel) rfl hl kk
theorem lk_Pa_shorter_13 : tv_lkV mm_Pa_shorter mm_Pa_signAt 46 1 := ⟨rfl, ⟨tw_158, tw_4, ⟨by decide +kernel, by decide +kernel⟩, by decide +kernel, by decide, by decide⟩, tw_155, tw_156, tw_157⟩
theorem e_Pa_shorter_13 {v1 : Value} {a : Nat} {fs : List Value} {mc' ms' : Nat} {Q' : tv_R → tv_H → Prop} (hobj : h[a]? = some (2, fs)) (hst : (st.map fun v => v.category).sum ≤ 8) (hct : tv_Ct G mm_Pa_signAt [.ref a, v1] h mc' ms' Q') (kk : ∀ v h', Q' (.inl v) h' → tv_Ev G mm_Pa_shorter 16 ls (v.toList ++ st) h' c z Q) (kx : ∀ E h', Q' (.inr E) h' → tv_Xv G mm_Pa_shorter 13 ls h' c z Q E) : tv_Ev G mm_Pa_shorter 13 ls (v1 :: .ref a :: st) h (c + mc') (z + ms') Q := ev_invokevirtual (vs := [v1]) mm_Pa_signAt (show decode mm_Pa_shorter.2.1 13 = .ok (.invokevirtual 46, 3) by decide +kernel) lk_Pa_shorter_13 rfl hobj rfl hst hct kk kx
theorem e_Pa_shorter_16 (kk : tv_Ev G mm_Pa_shorter 18 ls (.int 47 :: st) h c z Q) : tv_Ev G mm_Pa_shorter 16 ls st h c z Q := ev_bipush 47 (show decode mm_Pa_shorter.2.1 16 = .ok (.bipush (47), 2) by decide +kernel) (by decide) kk
theorem e_Pa_shorter_18 {x y : Int32} (kt : ¬ x = y → tv_Ev G mm_Pa_shorter 23 ls st h c z Q) (kf : x = y → tv_Ev G mm_Pa_shorter 21 ls st h c z Q) : tv_Ev G mm_Pa_shorter 18 ls (.int y :: .int x :: st) h c z Q := ev_icmp_ne 23 (show decode mm_Pa_shorter.2.1 18 = .ok (.if_icmp .ne (5), 3) by decide +kernel) (by decide) kt kf
theorem e_Pa_shorter_21 {x : Int32} (hl : ls[1]? = some (some (.int x))) (kk : tv_Ev G mm_Pa_shorter 22 ls (.int x :: st) h c z Q) : tv_Ev G mm_Pa_shorter 21 ls st h c z Q := ev_iload_n (show decode mm_Pa_shorter.2.1 21 = .ok (.iload_n 1, 1) by decide +kernel) rfl hl kk
theorem e_Pa_shorter_22 {x : Int32} (hQ : Q (.inl (some (.int x))) h) : tv_Ev G mm_Pa_shorter 22 ls [.int x] h c z Q := ev_ireturn (show decode mm_Pa_shorter.2.1 22 = .ok (.ireturn, 1) by decide +kernel) rfl hQ
theorem e_Pa_shorter_23 {x : Int32} (hl : ls[1]? = some (some (.int x))) (kk : tv_Ev G mm_Pa_shorter 26 (ls.set 1 (some (.int (x + (-1))))) st h c z Q) : tv_Ev G mm_Pa_shorter 23 ls st h c z Q := ev_iinc _ (show decode mm_Pa_shorter.2.1 23 = .ok (.iinc 1 (-1), 3) by decide +kernel) hl rfl kk
theorem e_Pa_shorter_26 (kk : tv_Ev G mm_Pa_shorter 7 ls st h c z Q) : tv_Ev G mm_Pa_shorter 26 ls st h c z Q := ev_goto 7 (show decode mm_Pa_shorter.2.1 26 = .ok (.goto (-19), 3) by decide +kernel) (by decide) kk
theorem e_Pa_shorter_29 (kk : tv_Ev G mm_Pa_shorter 30 ls (.int 0 :: st) h c z Q) : tv_Ev G mm_Pa_shorter 29 ls st h c z Q := ev_iconst 0 (show decode mm_Pa_shorter.2.1 29 = .ok (.iconst 0, 1) by decide +kernel) (by decide) kk
theorem e_Pa_shorter_30 {x : Int32} (hQ : Q (.inl (some (.int x))) h) : tv_Ev G mm_Pa_shorter 30 ls [.int x] h c z Q := ev_ireturn (show decode mm_Pa_shorter.2.1 30 = .ok (.ireturn, 1) by decide +kernel) rfl hQ
theorem e_Pa_order_0 (kk : tv_Ev G mm_Pa_order 1 ls (.int 0 :: st) h c z Q) : tv_Ev G mm_Pa_order 0 ls st h c z Q := ev_iconst 0 (show decode mm_Pa_order.2.1 0 = .ok (.iconst 0, 1) by decide +kernel) (by decide) kk
theorem e_Pa_order_1 {x : Int32} (hi2 : 3 < ls.length) (kk : tv_Ev G mm_Pa_order 2 (ls.set 3 (some (.int x))) st h c z Q) : tv_Ev G mm_Pa_order 1 ls (.int x :: st) h c z Q := ev_istore_n (show decode mm_Pa_order.2.1 1 = .ok (.istore_n 3, 1) by decide +kernel) rfl hi2 kk
theorem e_Pa_order_2 {x : Int32} (hl : ls[3]? = some (some (.int x))) (kk : tv_Ev G mm_Pa_order 3 ls (.int x :: st) h c z Q) : tv_Ev G mm_Pa_order 2 ls st h c z Q := ev_iload_n (show decode mm_Pa_order.2.1 2 = .ok (.iload_n 3, 1) by decide +kernel) rfl hl kk
theorem e_Pa_order_3 (kk : tv_Ev G mm_Pa_order 5 ls (.int 19 :: st) h c z Q) : tv_Ev G mm_Pa_order 3 ls st h c z Q := ev_bipush 19 (show decode mm_Pa_order.2.1 3 = .ok (.bipush (19), 2) by decide +kernel) (by decide) kk
theorem e_Pa_order_5 {x y : Int32} (kt : y ≤ x → tv_Ev G mm_Pa_order 49 ls st h c z Q) (kf : ¬ (y ≤ x) → tv_Ev G mm_Pa_order 8 ls st h c z Q) : tv_Ev G mm_Pa_order 5 ls (.int y :: .int x :: st) h c z Q := ev_icmp_ge 49 (show decode mm_Pa_order.2.1 5 = .ok (.if_icmp .ge (44), 3) by decide +kernel) (by decide) kt kf
theorem e_Pa_order_8 {x : Int32} (hl : ls[3]? = some (some (.int x))) (kk : tv_Ev G mm_Pa_order 9 ls (.int x :: st) h c z Q) : tv_Ev G mm_Pa_order 8 ls st h c z Q := ev_iload_n (show decode mm_Pa_order.2.1 8 = .ok (.iload_n 3, 1) by decide +kernel) rfl hl kk
theorem e_Pa_order_9 {x : Int32} (hl : ls[2]? = some (some (.int x))) (kk : tv_Ev G mm_Pa_order 10 ls (.int x :: st) h c z Q) : tv_Ev G mm_Pa_order 9 ls st h c z Q := ev_iload_n (show decode mm_Pa_order.2.1 9 = .ok (.iload_n 2, 1) by decide +kernel) rfl hl kk
theorem e_Pa_order_10 {x y : Int32} (kt : y ≤ x → tv_Ev G mm_Pa_order 21 ls st h c z Q) (kf : ¬ (y ≤ x) → tv_Ev G mm_Pa_order 13 ls st h c z Q) : tv_Ev G mm_Pa_order 10 ls (.int y :: .int x :: st) h c z Q := ev_icmp_ge 21 (show decode mm_Pa_order.2.1 10 = .ok (.if_icmp .ge (11), 3) by decide +kernel) (by decide) kt kf
theorem e_Pa_order_13 {x : Nat} (hl : ls[1]? = some (some (.ref x))) (kk : tv_Ev G mm_Pa_order 14 ls (.ref x :: st) h c z Q) : tv_Ev G mm_Pa_order 13 ls st h c z Q := ev_aload_n (show decode mm_Pa_order.2.1 13 = .ok (.aload_n 1, 1) by decide +kernel) rfl hl kk
theorem e_Pa_order_14 {x : Int32} (hl : ls[3]? = some (some (.int x))) (kk : tv_Ev G mm_Pa_order 15 ls (.int x :: st) h c z Q) : tv_Ev G mm_Pa_order 14 ls st h c z Q := ev_iload_n (show decode mm_Pa_order.2.1 14 = .ok (.iload_n 3, 1) by decide +kernel) rfl hl kk
theorem lk_Pa_order_15 : tv_lkV mm_Pa_order mm_Pa_signAt 46 1 := ⟨rfl, ⟨tw_158, tw_4, ⟨by decide +kernel, by decide +kernel⟩, by decide +kernel, by decide, by decide⟩, tw_155, tw_156, tw_157⟩
theorem e_Pa_order_15 {v1 : Value} {a : Nat} {fs : List Value} {mc' ms' : Nat} {Q' : tv_R → tv_H → Prop} (hobj : h[a]? = some (2, fs)) (hst : (st.map fun v => v.category).sum ≤ 8) (hct : tv_Ct G mm_Pa_signAt [.ref a, v1] h mc' ms' Q') (kk : ∀ v h', Q' (.inl v) h' → tv_Ev G mm_Pa_order 18 ls (v.toList ++ st) h' c z Q) (kx : ∀ E h', Q' (.inr E) h' → tv_Xv G mm_Pa_order 15 ls h' c z Q E) : tv_Ev G mm_Pa_order 15 ls (v1 :: .ref a :: st) h (c + mc') (z + ms') Q := ev_invokevirtual (vs := [v1]) mm_Pa_signAt (show decode mm_Pa_order.2.1 15 = .ok (.invokevirtual 46, 3) by decide +kernel) lk_Pa_order_15 rfl hobj rfl hst hct kk kx
theorem e_Pa_order_18 (kk : tv_Ev G mm_Pa_order 22 ls st h c z Q) : tv_Ev G mm_Pa_order 18 ls st h c z Q := ev_goto 22 (show decode mm_Pa_order.2.1 18 = .ok (.goto (4), 3) by decide +kernel) (by decide) kk
theorem e_Pa_order_21 (kk : tv_Ev G mm_Pa_order 22 ls (.int (-1) :: st) h c z Q) : tv_Ev G mm_Pa_order 21 ls st h c z Q := ev_iconst (-1) (show decode mm_Pa_order.2.1 21 = .ok (.iconst (-1), 1) by decide +kernel) (by decide) kk
theorem e_Pa_order_22 {x : Int32} (hi2 : 4 < ls.length) (kk : tv_Ev G mm_Pa_order 24 (ls.set 4 (some (.int x))) st h c z Q) : tv_Ev G mm_Pa_order 22 ls (.int x :: st) h c z Q := ev_istore (show decode mm_Pa_order.2.1 22 = .ok (.istore 4, 2) by decide +kernel) hi2 kk
theorem e_Pa_order_24 {x : Nat} (hl : ls[0]? = some (some (.ref x))) (kk : tv_Ev G mm_Pa_order 25 ls (.ref x :: st) h c z Q) : tv_Ev G mm_Pa_order 24 ls st h c z Q := ev_aload_n (show decode mm_Pa_order.2.1 24 = .ok (.aload_n 0, 1) by decide +kernel) rfl hl kk
theorem e_Pa_order_25 {x : Int32} (hl : ls[3]? = some (some (.int x))) (kk : tv_Ev G mm_Pa_order 26 ls (.int x :: st) h c z Q) : tv_Ev G mm_Pa_order 25 ls st h c z Q := ev_iload_n (show decode mm_Pa_order.2.1 25 = .ok (.iload_n 3, 1) by decide +kernel) rfl hl kk
theorem lk_Pa_order_26 : tv_lkV mm_Pa_order mm_Pa_signAt 46 1 := ⟨rfl, ⟨tw_158, tw_4, ⟨by decide +kernel, by decide +kernel⟩, by decide +kernel, by decide, by decide⟩, tw_155, tw_156, tw_157⟩
theorem e_Pa_order_26 {v1 : Value} {a : Nat} {fs : List Value} {mc' ms' : Nat} {Q' : tv_R → tv_H → Prop} (hobj : h[a]? = some (2, fs)) (hst : (st.map fun v => v.category).sum ≤ 8) (hct : tv_Ct G mm_Pa_signAt [.ref a, v1] h mc' ms' Q') (kk : ∀ v h', Q' (.inl v) h' → tv_Ev G mm_Pa_order 29 ls (v.toList ++ st) h' c z Q) (kx : ∀ E h', Q' (.inr E) h' → tv_Xv G mm_Pa_order 26 ls h' c z Q E) : tv_Ev G mm_Pa_order 26 ls (v1 :: .ref a :: st) h (c + mc') (z + ms') Q := ev_invokevirtual (vs := [v1]) mm_Pa_signAt (show decode mm_Pa_order.2.1 26 = .ok (.invokevirtual 46, 3) by decide +kernel) lk_Pa_order_26 rfl hobj rfl hst hct kk kx
theorem e_Pa_order_29 {x : Int32} (hl : ls[4]? = some (some (.int x))) (kk : tv_Ev G mm_Pa_order 31 ls (.int x :: st) h c z Q) : tv_Ev G mm_Pa_order 29 ls st h c z Q := ev_iload (show decode mm_Pa_order.2.1 29 = .ok (.iload 4, 2) by decide +kernel) hl kk
theorem e_Pa_order_31 {x y : Int32} (kt : x = y → tv_Ev G mm_Pa_order 43 ls st h c z Q) (kf : ¬ (x = y) → tv_Ev G mm_Pa_order 34 ls st h c z Q) : tv_Ev G mm_Pa_order 31 ls (.int y :: .int x :: st) h c z Q := ev_icmp_eq 43 (show decode mm_Pa_order.2.1 31 = .ok (.if_icmp .eq (12), 3) by decide +kernel) (by decide) kt kf
theorem e_Pa_order_34 {x : Nat} (hl : ls[0]? = some (some (.ref x))) (kk : tv_Ev G mm_Pa_order 35 ls (.ref x :: st) h c z Q) : tv_Ev G mm_Pa_order 34 ls st h c z Q := ev_aload_n (show decode mm_Pa_order.2.1 34 = .ok (.aload_n 0, 1) by decide +kernel) rfl hl kk
theorem e_Pa_order_35 {x : Int32} (hl : ls[3]? = some (some (.int x))) (kk : tv_Ev G mm_Pa_order 36 ls (.int x :: st) h c z Q) : tv_Ev G mm_Pa_order 35 ls st h c z Q := ev_iload_n (show decode mm_Pa_order.2.1 35 = .ok (.iload_n 3, 1) by decide +kernel) rfl hl kk
theorem lk_Pa_order_36 : tv_lkV mm_Pa_order mm_Pa_signAt 46 1 := ⟨rfl, ⟨tw_158, tw_4, ⟨by decide +kernel, by decide +kernel⟩, by decide +kernel, by decide, by decide⟩, tw_155, tw_156, tw_157⟩
theorem e_Pa_order_36 {v1 : Value} {a : Nat} {fs : List Value} {mc' ms' : Nat} {Q' : tv_R → tv_H → Prop} (hobj : h[a]? = some (2, fs)) (hst : (st.map fun v => v.category).sum ≤ 8) (hct : tv_Ct G mm_Pa_signAt [.ref a, v1] h mc' ms' Q') (kk : ∀ v h', Q' (.inl v) h' → tv_Ev G mm_Pa_order 39 ls (v.toList ++ st) h' c z Q) (kx : ∀ E h', Q' (.inr E) h' → tv_Xv G mm_Pa_order 36 ls h' c z Q E) : tv_Ev G mm_Pa_order 36 ls (v1 :: .ref a :: st) h (c + mc') (z + ms') Q := ev_invokevirtual (vs := [v1]) mm_Pa_signAt (show decode mm_Pa_order.2.1 36 = .ok (.invokevirtual 46, 3) by decide +kernel) lk_Pa_order_36 rfl hobj rfl hst hct kk kx
theorem e_Pa_order_39 {x : Int32} (hl : ls[4]? = some (some (.int x))) (kk : tv_Ev G mm_Pa_order 41 ls (.int x :: st) h c z Q) : tv_Ev G mm_Pa_order 39 ls st h c z Q := ev_iload (show decode mm_Pa_order.2.1 39 = .ok (.iload 4, 2) by decide +kernel) hl kk
theorem e_Pa_order_41 {x y : Int32} (kk : tv_Ev G mm_Pa_order 42 ls (.int (x - y) :: st) h c z Q) : tv_Ev G mm_Pa_order 41 ls (.int y :: .int x :: st) h c z Q := ev_isub (show decode mm_Pa_order.2.1 41 = .ok (.isub, 1) by decide +kernel) kk
theorem e_Pa_order_42 {x : Int32} (hQ : Q (.inl (some (.int x))) h) : tv_Ev G mm_Pa_order 42 ls [.int x] h c z Q := ev_ireturn (show decode mm_Pa_order.2.1 42 = .ok (.ireturn, 1) by decide +kernel) rfl hQ
theorem e_Pa_order_43 {x : Int32} (hl : ls[3]? = some (some (.int x))) (kk : tv_Ev G mm_Pa_order 46 (ls.set 3 (some (.int (x + 1)))) st h c z Q) : tv_Ev G mm_Pa_order 43 ls st h c z Q := ev_iinc _ (show decode mm_Pa_order.2.1 43 = .ok (.iinc 3 (1), 3) by decide +kernel) hl rfl kk
theorem e_Pa_order_46 (kk : tv_Ev G mm_Pa_order 2 ls st h c z Q) : tv_Ev G mm_Pa_order 46 ls st h c z Q := ev_goto 2 (show decode mm_Pa_order.2.1 46 = .ok (.goto (-44), 3) by decide +kernel) (by decide) kk
theorem e_Pa_order_49 (kk : tv_Ev G mm_Pa_order 50 ls (.int 0 :: st) h c z Q) : tv_Ev G mm_Pa_order 49 ls st h c z Q := ev_iconst 0 (show decode mm_Pa_order.2.1 49 = .ok (.iconst 0, 1) by decide +kernel) (by decide) kk
theorem e_Pa_order_50 {x : Int32} (hQ : Q (.inl (some (.int x))) h) : tv_Ev G mm_Pa_order 50 ls [.int x] h c z Q := ev_ireturn (show decode mm_Pa_order.2.1 50 = .ok (.ireturn, 1) by decide +kernel) rfl hQ
theorem e_Pa_isAt_0 {x : Nat} (hl : ls[0]? = some (some (.ref x))) (kk : tv_Ev G mm_Pa_isAt 1 ls (.ref x :: st) h c z Q) : tv_Ev G mm_Pa_isAt 0 ls st h c z Q := ev_aload_n (show decode mm_Pa_isAt.2.1 0 = .ok (.aload_n 0, 1) by decide +kernel) rfl hl kk
theorem e_Pa_isAt_1 {a : Nat} {fs : List Value} {v : Value} (hh : h[a]? = some (2, fs)) (hv : fs[1]? = some v) (kk : tv_Ev G mm_Pa_isAt 4 ls (v :: st) h c z Q) : tv_Ev G mm_Pa_isAt 1 ls (.ref a :: st) h c z Q := ev_getfield 2 1 (show decode mm_Pa_isAt.2.1 1 = .ok (.getfield 15, 3) by decide +kernel) fl_Pa_15 hh hv kk
theorem e_Pa_isAt_4 {x : Nat} (hl : ls[1]? = some (some (.ref x))) (kk : tv_Ev G mm_Pa_isAt 5 ls (.ref x :: st) h c z Q) : tv_Ev G mm_Pa_isAt 4 ls st h c z Q := ev_aload_n (show decode mm_Pa_isAt.2.1 4 = .ok (.aload_n 1, 1) by decide +kernel) rfl hl kk
theorem e_Pa_isAt_5 {a : Nat} {fs : List Value} {v : Value} (hh : h[a]? = some (2, fs)) (hv : fs[1]? = some v) (kk : tv_Ev G mm_Pa_isAt 8 ls (v :: st) h c z Q) : tv_Ev G mm_Pa_isAt 5 ls (.ref a :: st) h c z Q := ev_getfield 2 1 (show decode mm_Pa_isAt.2.1 5 = .ok (.getfield 15, 3) by decide +kernel) fl_Pa_15 hh hv kk
theorem e_Pa_isAt_8 {x y : Int32} (kt : ¬ x = y → tv_Ev G mm_Pa_isAt 27 ls st h c z Q) (kf : x = y → tv_Ev G mm_Pa_isAt 11 ls st h c z Q) : tv_Ev G mm_Pa_isAt 8 ls (.int y :: .int x :: st) h c z Q := ev_icmp_ne 27 (show decode mm_Pa_isAt.2.1 8 = .ok (.if_icmp .ne (19), 3) by decide +kernel) (by decide) kt kf
theorem e_Pa_isAt_11 {x : Nat} (hl : ls[0]? = some (some (.ref x))) (kk : tv_Ev G mm_Pa_isAt 12 ls (.ref x :: st) h c z Q) : tv_Ev G mm_Pa_isAt 11 ls st h c z Q := ev_aload_n (show decode mm_Pa_isAt.2.1 11 = .ok (.aload_n 0, 1) by decide +kernel) rfl hl kk
theorem e_Pa_isAt_12 {x : Nat} (hl : ls[1]? = some (some (.ref x))) (kk : tv_Ev G mm_Pa_isAt 13 ls (.ref x :: st) h c z Q) : tv_Ev G mm_Pa_isAt 12 ls st h c z Q := ev_aload_n (show decode mm_Pa_isAt.2.1 12 = .ok (.aload_n 1, 1) by decide +kernel) rfl hl kk
theorem e_Pa_isAt_13 {x : Nat} (hl : ls[0]? = some (some (.ref x))) (kk : tv_Ev G mm_Pa_isAt 14 ls (.ref x :: st) h c z Q) : tv_Ev G mm_Pa_isAt 13 ls st h c z Q := ev_aload_n (show decode mm_Pa_isAt.2.1 13 = .ok (.aload_n 0, 1) by decide +kernel) rfl hl kk
theorem e_Pa_isAt_14 {a : Nat} {fs : List Value} {v : Value} (hh : h[a]? = some (2, fs)) (hv : fs[1]? = some v) (kk : tv_Ev G mm_Pa_isAt 17 ls (v :: st) h c z Q) : tv_Ev G mm_Pa_isAt 14 ls (.ref a :: st) h c z Q := ev_getfield 2 1 (show decode mm_Pa_isAt.2.1 14 = .ok (.getfield 15, 3) by decide +kernel) fl_Pa_15 hh hv kk
theorem lk_Pa_isAt_17 : tv_lkV mm_Pa_isAt mm_Pa_order 58 2 := ⟨rfl, ⟨tw_185, tw_4, ⟨by decide +kernel, by decide +kernel⟩, by decide +kernel, by decide, by decide⟩, tw_182, tw_183, tw_184⟩
theorem e_Pa_isAt_17 {v1 v2 : Value} {a : Nat} {fs : List Value} {mc' ms' : Nat} {Q' : tv_R → tv_H → Prop} (hobj : h[a]? = some (2, fs)) (hst : (st.map fun v => v.category).sum ≤ 8) (hct : tv_Ct G mm_Pa_order [.ref a, v1, v2] h mc' ms' Q') (kk : ∀ v h', Q' (.inl v) h' → tv_Ev G mm_Pa_isAt 20 ls (v.toList ++ st) h' c z Q) (kx : ∀ E h', Q' (.inr E) h' → tv_Xv G mm_Pa_isAt 17 ls h' c z Q E) : tv_Ev G mm_Pa_isAt 17 ls (v2 :: v1 :: .ref a :: st) h (c + mc') (z + ms') Q := ev_invokevirtual (vs := [v1, v2]) mm_Pa_order (show decode mm_Pa_isAt.2.1 17 = .ok (.invokevirtual 58, 3) by decide +kernel) lk_Pa_isAt_17 rfl hobj rfl hst hct kk kx
theorem e_Pa_isAt_20 {x : Int32} (kt : ¬ x = 0 → tv_Ev G mm_Pa_isAt 27 ls st h c z Q) (kf : x = 0 → tv_Ev G mm_Pa_isAt 23 ls st h c z Q) : tv_Ev G mm_Pa_isAt 20 ls (.int x :: st) h c z Q := ev_if_ne 27 (show decode mm_Pa_isAt.2.1 20 = .ok (.ifCond .ne (7), 3) by decide +kernel) (by decide) kt kf
theorem e_Pa_isAt_23 (kk : tv_Ev G mm_Pa_isAt 24 ls (.int 1 :: st) h c z Q) : tv_Ev G mm_Pa_isAt 23 ls st h c z Q := ev_iconst 1 (show decode mm_Pa_isAt.2.1 23 = .ok (.iconst 1, 1) by decide +kernel) (by decide) kk
theorem e_Pa_isAt_24 (kk : tv_Ev G mm_Pa_isAt 28 ls st h c z Q) : tv_Ev G mm_Pa_isAt 24 ls st h c z Q := ev_goto 28 (show decode mm_Pa_isAt.2.1 24 = .ok (.goto (4), 3) by decide +kernel) (by decide) kk
theorem e_Pa_isAt_27 (kk : tv_Ev G mm_Pa_isAt 28 ls (.int 0 :: st) h c z Q) : tv_Ev G mm_Pa_isAt 27 ls st h c z Q := ev_iconst 0 (show decode mm_Pa_isAt.2.1 27 = .ok (.iconst 0, 1) by decide +kernel) (by decide) kk
theorem e_Pa_isAt_28 {x : Int32} (hx : x = 0 ∨ x = 1) (hQ : Q (.inl (some (.int x))) h) : tv_Ev G mm_Pa_isAt 28 ls [.int x] h c z Q := ev_zreturn (show decode mm_Pa_isAt.2.1 28 = .ok (.ireturn, 1) by decide +kernel) rfl hx hQ
theorem e_Pa_isBelow_0 {x : Nat} (hl : ls[0]? = some (some (.ref x))) (kk : tv_Ev G mm_Pa_isBelow 1 ls (.ref x :: st) h c z Q) : tv_Ev G mm_Pa_isBelow 0 ls st h c z Q := ev_aload_n (show decode mm_Pa_isBelow.2.1 0 = .ok (.aload_n 0, 1) by decide +kernel) rfl hl kk
theorem e_Pa_isBelow_1 {x : Nat} (hl : ls[1]? = some (some (.ref x))) (kk : tv_Ev G mm_Pa_isBelow 2 ls (.ref x :: st) h c z Q) : tv_Ev G mm_Pa_isBelow 1 ls st h c z Q := ev_aload_n (show decode mm_Pa_isBelow.2.1 1 = .ok (.aload_n 1, 1) by decide +kernel) rfl hl kk
theorem e_Pa_isBelow_2 {a : Nat} {fs : List Value} {v : Value} (hh : h[a]? = some (2, fs)) (hv : fs[1]? = some v) (kk : tv_Ev G mm_Pa_isBelow 5 ls (v :: st) h c z Q) : tv_Ev G mm_Pa_isBelow 2 ls (.ref a :: st) h c z Q := ev_getfield 2 1 (show decode mm_Pa_isBelow.2.1 2 = .ok (.getfield 15, 3) by decide +kernel) fl_Pa_15 hh hv kk
theorem lk_Pa_isBelow_5 : tv_lkV mm_Pa_isBelow mm_Pa_signAt 46 1 := ⟨rfl, ⟨tw_158, tw_4, ⟨by decide +kernel, by decide +kernel⟩, by decide +kernel, by decide, by decide⟩, tw_155, tw_156, tw_157⟩
theorem e_Pa_isBelow_5 {v1 : Value} {a : Nat} {fs : List Value} {mc' ms' : Nat} {Q' : tv_R → tv_H → Prop} (hobj : h[a]? = some (2, fs)) (hst : (st.map fun v => v.category).sum ≤ 8) (hct : tv_Ct G mm_Pa_signAt [.ref a, v1] h mc' ms' Q') (kk : ∀ v h', Q' (.inl v) h' → tv_Ev G mm_Pa_isBelow 8 ls (v.toList ++ st) h' c z Q) (kx : ∀ E h', Q' (.inr E) h' → tv_Xv G mm_Pa_isBelow 5 ls h' c z Q E) : tv_Ev G mm_Pa_isBelow 5 ls (v1 :: .ref a :: st) h (c + mc') (z + ms') Q := ev_invokevirtual (vs := [v1]) mm_Pa_signAt (show decode mm_Pa_isBelow.2.1 5 = .ok (.invokevirtual 46, 3) by decide +kernel) lk_Pa_isBelow_5 rfl hobj rfl hst hct kk kx
theorem e_Pa_isBelow_8 (kk : tv_Ev G mm_Pa_isBelow 10 ls (.int 47 :: st) h c z Q) : tv_Ev G mm_Pa_isBelow 8 ls st h c z Q := ev_bipush 47 (show decode mm_Pa_isBelow.2.1 8 = .ok (.bipush (47), 2) by decide +kernel) (by decide) kk
theorem e_Pa_isBelow_10 {x y : Int32} (kt : ¬ x = y → tv_Ev G mm_Pa_isBelow 29 ls st h c z Q) (kf : x = y → tv_Ev G mm_Pa_isBelow 13 ls st h c z Q) : tv_Ev G mm_Pa_isBelow 10 ls (.int y :: .int x :: st) h c z Q := ev_icmp_ne 29 (show decode mm_Pa_isBelow.2.1 10 = .ok (.if_icmp .ne (19), 3) by decide +kernel) (by decide) kt kf
theorem e_Pa_isBelow_13 {x : Nat} (hl : ls[1]? = some (some (.ref x))) (kk : tv_Ev G mm_Pa_isBelow 14 ls (.ref x :: st) h c z Q) : tv_Ev G mm_Pa_isBelow 13 ls st h c z Q := ev_aload_n (show decode mm_Pa_isBelow.2.1 13 = .ok (.aload_n 1, 1) by decide +kernel) rfl hl kk
theorem e_Pa_isBelow_14 {x : Nat} (hl : ls[0]? = some (some (.ref x))) (kk : tv_Ev G mm_Pa_isBelow 15 ls (.ref x :: st) h c z Q) : tv_Ev G mm_Pa_isBelow 14 ls st h c z Q := ev_aload_n (show decode mm_Pa_isBelow.2.1 14 = .ok (.aload_n 0, 1) by decide +kernel) rfl hl kk
theorem e_Pa_isBelow_15 {x : Nat} (hl : ls[1]? = some (some (.ref x))) (kk : tv_Ev G mm_Pa_isBelow 16 ls (.ref x :: st) h c z Q) : tv_Ev G mm_Pa_isBelow 15 ls st h c z Q := ev_aload_n (show decode mm_Pa_isBelow.2.1 15 = .ok (.aload_n 1, 1) by decide +kernel) rfl hl kk
theorem e_Pa_isBelow_16 {a : Nat} {fs : List Value} {v : Value} (hh : h[a]? = some (2, fs)) (hv : fs[1]? = some v) (kk : tv_Ev G mm_Pa_isBelow 19 ls (v :: st) h c z Q) : tv_Ev G mm_Pa_isBelow 16 ls (.ref a :: st) h c z Q := ev_getfield 2 1 (show decode mm_Pa_isBelow.2.1 16 = .ok (.getfield 15, 3) by decide +kernel) fl_Pa_15 hh hv kk
theorem lk_Pa_isBelow_19 : tv_lkV mm_Pa_isBelow mm_Pa_order 58 2 := ⟨rfl, ⟨tw_185, tw_4, ⟨by decide +kernel, by decide +kernel⟩, by decide +kernel, by decide, by decide⟩, tw_182, tw_183, tw_184⟩
theorem e_Pa_isBelow_19 {v1 v2 : Value} {a : Nat} {fs : List Value} {mc' ms' : Nat} {Q' : tv_R → tv_H → Prop} (hobj : h[a]? = some (2, fs)) (hst : (st.map fun v => v.category).sum ≤ 8) (hct : tv_Ct G mm_Pa_order [.ref a, v1, v2] h mc' ms' Q') (kk : ∀ v h', Q' (.inl v) h' → tv_Ev G mm_Pa_isBelow 22 ls (v.toList ++ st) h' c z Q) (kx : ∀ E h', Q' (.inr E) h' → tv_Xv G mm_Pa_isBelow 19 ls h' c z Q E) : tv_Ev G mm_Pa_isBelow 19 ls (v2 :: v1 :: .ref a :: st) h (c + mc') (z + ms') Q := ev_invokevirtual (vs := [v1, v2]) mm_Pa_order (show decode mm_Pa_isBelow.2.1 19 = .ok (.invokevirtual 58, 3) by decide +kernel) lk_Pa_isBelow_19 rfl hobj rfl hst hct kk kx
theorem e_Pa_isBelow_22 {x : Int32} (kt : ¬ x = 0 → tv_Ev G mm_Pa_isBelow 29 ls st h c z Q) (kf : x = 0 → tv_Ev G mm_Pa_isBelow 25 ls st h c z Q) : tv_Ev G mm_Pa_isBelow 22 ls (.int x :: st) h c z Q := ev_if_ne 29 (show decode mm_Pa_isBelow.2.1 22 = .ok (.ifCond .ne (7), 3) by decide +kernel) (by decide) kt kf
theorem e_Pa_isBelow_25 (kk : tv_Ev G mm_Pa_isBelow 26 ls (.int 1 :: st) h c z Q) : tv_Ev G mm_Pa_isBelow 25 ls st h c z Q := ev_iconst 1 (show decode mm_Pa_isBelow.2.1 25 = .ok (.iconst 1, 1) by decide +kernel) (by decide) kk
theorem e_Pa_isBelow_26 (kk : tv_Ev G mm_Pa_isBelow 30 ls st h c z Q) : tv_Ev G mm_Pa_isBelow 26 ls st h c z Q := ev_goto 30 (show decode mm_Pa_isBelow.2.1 26 = .ok (.goto (4), 3) by decide +kernel) (by decide) kk
theorem e_Pa_isBelow_29 (kk : tv_Ev G mm_Pa_isBelow 30 ls (.int 0 :: st) h c z Q) : tv_Ev G mm_Pa_isBelow 29 ls st h c z Q := ev_iconst 0 (show decode mm_Pa_isBelow.2.1 29 = .ok (.iconst 0, 1) by decide +kernel) (by decide) kk
theorem e_Pa_isBelow_30 {x : Int32} (hx : x = 0 ∨ x = 1) (hQ : Q (.inl (some (.int x))) h) : tv_Ev G mm_Pa_isBelow 30 ls [.int x] h c z Q := ev_zreturn (show decode mm_Pa_isBelow.2.1 30 = .ok (.ireturn, 1) by decide +kernel) rfl hx hQ
theorem e_Pa_replaceStart_0 {x : Nat} (hl : ls[0]? = some (some (.ref x))) (kk : tv_Ev G mm_Pa_replaceStart 1 ls (.ref x :: st) h c z Q) : tv_Ev G mm_Pa_replaceStart 0 ls st h c z Q := ev_aload_n (show decode mm_Pa_replaceStart.2.1 0 = .ok (.aload_n 0, 1) by decide +kernel) rfl hl kk
theorem e_Pa_replaceStart_1 {a : Nat} {fs : List Value} {v : Value} (hh : h[a]? = some (2, fs)) (hv : fs[1]? = some v) (kk : tv_Ev G mm_Pa_replaceStart 4 ls (v :: st) h c z Q) : tv_Ev G mm_Pa_replaceStart 1 ls (.ref a :: st) h c z Q := ev_getfield 2 1 (show decode mm_Pa_replaceStart.2.1 1 = .ok (.getfield 15, 3) by decide +kernel) fl_Pa_15 hh hv kk
theorem e_Pa_replaceStart_4 {x : Int32} (hl : ls[1]? = some (some (.int x))) (kk : tv_Ev G mm_Pa_replaceStart 5 ls (.int x :: st) h c z Q) : tv_Ev G mm_Pa_replaceStart 4 ls st h c z Q := ev_iload_n (show decode mm_Pa_replaceStart.2.1 4 = .ok (.iload_n 1, 1) by decide +kernel) rfl hl kk
theorem e_Pa_replaceStart_5 {x y : Int32} (kk : tv_Ev G mm_Pa_replaceStart 6 ls (.int (x - y) :: st) h c z Q) : tv_Ev G mm_Pa_replaceStart 5 ls (.int y :: .int x :: st) h c z Q := ev_isub (show decode mm_Pa_replaceStart.2.1 5 = .ok (.isub, 1) by decide +kernel) kk
theorem e_Pa_replaceStart_6 {x : Nat} (hl : ls[2]? = some (some (.ref x))) (kk : tv_Ev G mm_Pa_replaceStart 7 ls (.ref x :: st) h c z Q) : tv_Ev G mm_Pa_replaceStart 6 ls st h c z Q := ev_aload_n (show decode mm_Pa_replaceStart.2.1 6 = .ok (.aload_n 2, 1) by decide +kernel) rfl hl kk
theorem e_Pa_replaceStart_7 {a : Nat} {fs : List Value} {v : Value} (hh : h[a]? = some (2, fs)) (hv : fs[1]? = some v) (kk : tv_Ev G mm_Pa_replaceStart 10 ls (v :: st) h c z Q) : tv_Ev G mm_Pa_replaceStart 7 ls (.ref a :: st) h c z Q := ev_getfield 2 1 (show decode mm_Pa_replaceStart.2.1 7 = .ok (.getfield 15, 3) by decide +kernel) fl_Pa_15 hh hv kk
theorem e_Pa_replaceStart_10 {x y : Int32} (kk : tv_Ev G mm_Pa_replaceStart 11 ls (.int (x + y) :: st) h c z Q) : tv_Ev G mm_Pa_replaceStart 10 ls (.int y :: .int x :: st) h c z Q := ev_iadd (show decode mm_Pa_replaceStart.2.1 10 = .ok (.iadd, 1) by decide +kernel) kk
theorem e_Pa_replaceStart_11 {x : Int32} (hi2 : 3 < ls.length) (kk : tv_Ev G mm_Pa_replaceStart 12 (ls.set 3 (some (.int x))) st h c z Q) : tv_Ev G mm_Pa_replaceStart 11 ls (.int x :: st) h c z Q := ev_istore_n (show decode mm_Pa_replaceStart.2.1 11 = .ok (.istore_n 3, 1) by decide +kernel) rfl hi2 kk
theorem e_Pa_replaceStart_12 {x : Int32} (hl : ls[1]? = some (some (.int x))) (kk : tv_Ev G mm_Pa_replaceStart 13 ls (.int x :: st) h c z Q) : tv_Ev G mm_Pa_replaceStart 12 ls st h c z Q := ev_iload_n (show decode mm_Pa_replaceStart.2.1 12 = .ok (.iload_n 1, 1) by decide +kernel) rfl hl kk
theorem e_Pa_replaceStart_13 {x : Nat} (hl : ls[0]? = some (some (.ref x))) (kk : tv_Ev G mm_Pa_replaceStart 14 ls (.ref x :: st) h c z Q) : tv_Ev G mm_Pa_replaceStart 13 ls st h c z Q := ev_aload_n (show decode mm_Pa_replaceStart.2.1 13 = .ok (.aload_n 0, 1) by decide +kernel) rfl hl kk
theorem e_Pa_replaceStart_14 {a : Nat} {fs : List Value} {v : Value} (hh : h[a]? = some (2, fs)) (hv : fs[1]? = some v) (kk : tv_Ev G mm_Pa_replaceStart 17 ls (v :: st) h c z Q) : tv_Ev G mm_Pa_replaceStart 14 ls (.ref a :: st) h c z Q := ev_getfield 2 1 (show decode mm_Pa_replaceStart.2.1 14 = .ok (.getfield 15, 3) by decide +kernel) fl_Pa_15 hh hv kk
theorem e_Pa_replaceStart_17 {x y : Int32} (kt : y < x → tv_Ev G mm_Pa_replaceStart 26 ls st h c z Q) (kf : ¬ (y < x) → tv_Ev G mm_Pa_replaceStart 20 ls st h c z Q) : tv_Ev G mm_Pa_replaceStart 17 ls (.int y :: .int x :: st) h c z Q := ev_icmp_gt 26 (show decode mm_Pa_replaceStart.2.1 17 = .ok (.if_icmp .gt (9), 3) by decide +kernel) (by decide) kt kf
theorem e_Pa_replaceStart_20 {x : Int32} (hl : ls[3]? = some (some (.int x))) (kk : tv_Ev G mm_Pa_replaceStart 21 ls (.int x :: st) h c z Q) : tv_Ev G mm_Pa_replaceStart 20 ls st h c z Q := ev_iload_n (show decode mm_Pa_replaceStart.2.1 20 = .ok (.iload_n 3, 1) by decide +kernel) rfl hl kk
theorem e_Pa_replaceStart_21 (kk : tv_Ev G mm_Pa_replaceStart 23 ls (.int 19 :: st) h c z Q) : tv_Ev G mm_Pa_replaceStart 21 ls st h c z Q := ev_bipush 19 (show decode mm_Pa_replaceStart.2.1 21 = .ok (.bipush (19), 2) by decide +kernel) (by decide) kk
theorem e_Pa_replaceStart_23 {x y : Int32} (kt : x ≤ y → tv_Ev G mm_Pa_replaceStart 27 ls st h c z Q) (kf : ¬ (x ≤ y) → tv_Ev G mm_Pa_replaceStart 26 ls st h c z Q) : tv_Ev G mm_Pa_replaceStart 23 ls (.int y :: .int x :: st) h c z Q := ev_icmp_le 27 (show decode mm_Pa_replaceStart.2.1 23 = .ok (.if_icmp .le (4), 3) by decide +kernel) (by decide) kt kf
theorem e_Pa_replaceStart_26 (hQ : Q (.inl none) h) : tv_Ev G mm_Pa_replaceStart 26 ls [] h c z Q := ev_return (show decode mm_Pa_replaceStart.2.1 26 = .ok (.return_, 1) by decide +kernel) rfl hQ
theorem e_Pa_replaceStart_27 {x : Nat} (hl : ls[0]? = some (some (.ref x))) (kk : tv_Ev G mm_Pa_replaceStart 28 ls (.ref x :: st) h c z Q) : tv_Ev G mm_Pa_replaceStart 27 ls st h c z Q := ev_aload_n (show decode mm_Pa_replaceStart.2.1 27 = .ok (.aload_n 0, 1) by decide +kernel) rfl hl kk
theorem e_Pa_replaceStart_28 {a : Nat} {fs : List Value} {v : Value} (hh : h[a]? = some (2, fs)) (hv : fs[0]? = some v) (kk : tv_Ev G mm_Pa_replaceStart 31 ls (v :: st) h c z Q) : tv_Ev G mm_Pa_replaceStart 28 ls (.ref a :: st) h c z Q := ev_getfield 2 0 (show decode mm_Pa_replaceStart.2.1 28 = .ok (.getfield 9, 3) by decide +kernel) fl_Pa_9 hh hv kk
theorem e_Pa_replaceStart_31 {x : Int32} (hl : ls[1]? = some (some (.int x))) (kk : tv_Ev G mm_Pa_replaceStart 32 ls (.int x :: st) h c z Q) : tv_Ev G mm_Pa_replaceStart 31 ls st h c z Q := ev_iload_n (show decode mm_Pa_replaceStart.2.1 31 = .ok (.iload_n 1, 1) by decide +kernel) rfl hl kk
theorem e_Pa_replaceStart_32 {x : Nat} (hl : ls[0]? = some (some (.ref x))) (kk : tv_Ev G mm_Pa_replaceStart 33 ls (.ref x :: st) h c z Q) : tv_Ev G mm_Pa_replaceStart 32 ls st h c z Q := ev_aload_n (show decode mm_Pa_replaceStart.2.1 32 = .ok (.aload_n 0, 1) by decide +kernel) rfl hl kk
theorem e_Pa_replaceStart_33 {a : Nat} {fs : List Value} {v : Value} (hh : h[a]? = some (2, fs)) (hv : fs[0]? = some v) (kk : tv_Ev G mm_Pa_replaceStart 36 ls (v :: st) h c z Q) : tv_Ev G mm_Pa_replaceStart 33 ls (.ref a :: st) h c z Q := ev_getfield 2 0 (show decode mm_Pa_replaceStart.2.1 33 = .ok (.getfield 9, 3) by decide +kernel) fl_Pa_9 hh hv kk
theorem e_Pa_replaceStart_36 {x : Nat} (hl : ls[2]? = some (some (.ref x))) (kk : tv_Ev G mm_Pa_replaceStart 37 ls (.ref x :: st) h c z Q) : tv_Ev G mm_Pa_replaceStart 36 ls st h c z Q := ev_aload_n (show decode mm_Pa_replaceStart.2.1 36 = .ok (.aload_n 2, 1) by decide +kernel) rfl hl kk
theorem e_Pa_replaceStart_37 {a : Nat} {fs : List Value} {v : Value} (hh : h[a]? = some (2, fs)) (hv : fs[1]? = some v) (kk : tv_Ev G mm_Pa_replaceStart 40 ls (v :: st) h c z Q) : tv_Ev G mm_Pa_replaceStart 37 ls (.ref a :: st) h c z Q := ev_getfield 2 1 (show decode mm_Pa_replaceStart.2.1 37 = .ok (.getfield 15, 3) by decide +kernel) fl_Pa_15 hh hv kk
theorem e_Pa_replaceStart_40 {x : Nat} (hl : ls[0]? = some (some (.ref x))) (kk : tv_Ev G mm_Pa_replaceStart 41 ls (.ref x :: st) h c z Q) : tv_Ev G mm_Pa_replaceStart 40 ls st h c z Q := ev_aload_n (show decode mm_Pa_replaceStart.2.1 40 = .ok (.aload_n 0, 1) by decide +kernel) rfl hl kk
theorem e_Pa_replaceStart_41 {a : Nat} {fs : List Value} {v : Value} (hh : h[a]? = some (2, fs)) (hv : fs[1]? = some v) (kk : tv_Ev G mm_Pa_replaceStart 44 ls (v :: st) h c z Q) : tv_Ev G mm_Pa_replaceStart 41 ls (.ref a :: st) h c z Q := ev_getfield 2 1 (show decode mm_Pa_replaceStart.2.1 41 = .ok (.getfield 15, 3) by decide +kernel) fl_Pa_15 hh hv kk
theorem e_Pa_replaceStart_44 {x : Int32} (hl : ls[1]? = some (some (.int x))) (kk : tv_Ev G mm_Pa_replaceStart 45 ls (.int x :: st) h c z Q) : tv_Ev G mm_Pa_replaceStart 44 ls st h c z Q := ev_iload_n (show decode mm_Pa_replaceStart.2.1 44 = .ok (.iload_n 1, 1) by decide +kernel) rfl hl kk
theorem e_Pa_replaceStart_45 {x y : Int32} (kk : tv_Ev G mm_Pa_replaceStart 46 ls (.int (x - y) :: st) h c z Q) : tv_Ev G mm_Pa_replaceStart 45 ls (.int y :: .int x :: st) h c z Q := ev_isub (show decode mm_Pa_replaceStart.2.1 45 = .ok (.isub, 1) by decide +kernel) kk
theorem e_Pa_replaceStart_46 {a b : Nat} {fs gs : List Value} {isp idp inn : Int32} (sp dp n : Nat) (ha : h[a]? = some (100, fs)) (hb : h[b]? = some (100, gs)) (h1 : isp = nI sp) (h2 : idp = nI dp) (h3 : inn = nI n) (h4 : sp + n ≤ fs.length) (h5 : dp + n ≤ gs.length) (hl1 : fs.length < 2 ^ 31) (hl2 : gs.length < 2 ^ 31) (hfit : ∀ v ∈ fs, fits .byte v = true) (hst : (st.map fun v => v.category).sum ≤ 8) (kk : tv_Ev G mm_Pa_replaceStart 49 ls st (h.set b (100, tv_cpy fs gs sp dp n)) c z Q) : tv_Ev G mm_Pa_replaceStart 46 ls (.int inn :: .int idp :: .ref b :: .int isp :: .ref a :: st) h c z Q := ev_copyb sp dp n (show decode mm_Pa_replaceStart.2.1 46 = .ok (.invokestatic 19, 3) by decide +kernel) tw_342 tw_344 tw_343 tw_13 ha hb h1 h2 h3 h4 h5 hl1 hl2 hfit (by decide) (Nat.le_trans (Nat.add_le_add_right hst 18) (by decide)) kk
theorem e_Pa_replaceStart_49 {x : Nat} (hl : ls[2]? = some (some (.ref x))) (kk : tv_Ev G mm_Pa_replaceStart 50 ls (.ref x :: st) h c z Q) : tv_Ev G mm_Pa_replaceStart 49 ls st h c z Q := ev_aload_n (show decode mm_Pa_replaceStart.2.1 49 = .ok (.aload_n 2, 1) by decide +kernel) rfl hl kk
theorem e_Pa_replaceStart_50 {a : Nat} {fs : List Value} {v : Value} (hh : h[a]? = some (2, fs)) (hv : fs[0]? = some v) (kk : tv_Ev G mm_Pa_replaceStart 53 ls (v :: st) h c z Q) : tv_Ev G mm_Pa_replaceStart 50 ls (.ref a :: st) h c z Q := ev_getfield 2 0 (show decode mm_Pa_replaceStart.2.1 50 = .ok (.getfield 9, 3) by decide +kernel) fl_Pa_9 hh hv kk
theorem e_Pa_replaceStart_53 (kk : tv_Ev G mm_Pa_replaceStart 54 ls (.int 0 :: st) h c z Q) : tv_Ev G mm_Pa_replaceStart 53 ls st h c z Q := ev_iconst 0 (show decode mm_Pa_replaceStart.2.1 53 = .ok (.iconst 0, 1) by decide +kernel) (by decide) kk
theorem e_Pa_replaceStart_54 {x : Nat} (hl : ls[0]? = some (some (.ref x))) (kk : tv_Ev G mm_Pa_replaceStart 55 ls (.ref x :: st) h c z Q) : tv_Ev G mm_Pa_replaceStart 54 ls st h c z Q := ev_aload_n (show decode mm_Pa_replaceStart.2.1 54 = .ok (.aload_n 0, 1) by decide +kernel) rfl hl kk
theorem e_Pa_replaceStart_55 {a : Nat} {fs : List Value} {v : Value} (hh : h[a]? = some (2, fs)) (hv : fs[0]? = some v) (kk : tv_Ev G mm_Pa_replaceStart 58 ls (v :: st) h c z Q) : tv_Ev G mm_Pa_replaceStart 55 ls (.ref a :: st) h c z Q := ev_getfield 2 0 (show decode mm_Pa_replaceStart.2.1 55 = .ok (.getfield 9, 3) by decide +kernel) fl_Pa_9 hh hv kk
theorem e_Pa_replaceStart_58 (kk : tv_Ev G mm_Pa_replaceStart 59 ls (.int 0 :: st) h c z Q) : tv_Ev G mm_Pa_replaceStart 58 ls st h c z Q := ev_iconst 0 (show decode mm_Pa_replaceStart.2.1 58 = .ok (.iconst 0, 1) by decide +kernel) (by decide) kk
theorem e_Pa_replaceStart_59 {x : Nat} (hl : ls[2]? = some (some (.ref x))) (kk : tv_Ev G mm_Pa_replaceStart 60 ls (.ref x :: st) h c z Q) : tv_Ev G mm_Pa_replaceStart 59 ls st h c z Q := ev_aload_n (show decode mm_Pa_replaceStart.2.1 59 = .ok (.aload_n 2, 1) by decide +kernel) rfl hl kk
theorem e_Pa_replaceStart_60 {a : Nat} {fs : List Value} {v : Value} (hh : h[a]? = some (2, fs)) (hv : fs[1]? = some v) (kk : tv_Ev G mm_Pa_replaceStart 63 ls (v :: st) h c z Q) : tv_Ev G mm_Pa_replaceStart 60 ls (.ref a :: st) h c z Q := ev_getfield 2 1 (show decode mm_Pa_replaceStart.2.1 60 = .ok (.getfield 15, 3) by decide +kernel) fl_Pa_15 hh hv kk
theorem e_Pa_replaceStart_63 {a b : Nat} {fs gs : List Value} {isp idp inn : Int32} (sp dp n : Nat) (ha : h[a]? = some (100, fs)) (hb : h[b]? = some (100, gs)) (h1 : isp = nI sp) (h2 : idp = nI dp) (h3 : inn = nI n) (h4 : sp + n ≤ fs.length) (h5 : dp + n ≤ gs.length) (hl1 : fs.length < 2 ^ 31) (hl2 : gs.length < 2 ^ 31) (hfit : ∀ v ∈ fs, fits .byte v = true) (hst : (st.map fun v => v.category).sum ≤ 8) (kk : tv_Ev G mm_Pa_replaceStart 66 ls st (h.set b (100, tv_cpy fs gs sp dp n)) c z Q) : tv_Ev G mm_Pa_replaceStart 63 ls (.int inn :: .int idp :: .ref b :: .int isp :: .ref a :: st) h c z Q := ev_copyb sp dp n (show decode mm_Pa_replaceStart.2.1 63 = .ok (.invokestatic 19, 3) by decide +kernel) tw_342 tw_344 tw_343 tw_13 ha hb h1 h2 h3 h4 h5 hl1 hl2 hfit (by decide) (Nat.le_trans (Nat.add_le_add_right hst 18) (by decide)) kk
theorem e_Pa_replaceStart_66 {x : Nat} (hl : ls[0]? = some (some (.ref x))) (kk : tv_Ev G mm_Pa_replaceStart 67 ls (.ref x :: st) h c z Q) : tv_Ev G mm_Pa_replaceStart 66 ls st h c z Q := ev_aload_n (show decode mm_Pa_replaceStart.2.1 66 = .ok (.aload_n 0, 1) by decide +kernel) rfl hl kk
theorem e_Pa_replaceStart_67 {x : Int32} (hl : ls[3]? = some (some (.int x))) (kk : tv_Ev G mm_Pa_replaceStart 68 ls (.int x :: st) h c z Q) : tv_Ev G mm_Pa_replaceStart 67 ls st h c z Q := ev_iload_n (show decode mm_Pa_replaceStart.2.1 67 = .ok (.iload_n 3, 1) by decide +kernel) rfl hl kk
theorem fp_Pa_replaceStart_68 : tv_fp "TreeChanges$Path" "replaceStart" 15 2 1 .int := ⟨_, _, _, rfl, by decide, by decide +kernel, Or.inl ⟨rfl, Or.inl tw_44⟩⟩
theorem e_Pa_replaceStart_68 {a : Nat} {fs : List Value} {x : Int32} (hh : h[a]? = some (2, fs)) (hj : 1 < fs.length) (kk : tv_Ev G mm_Pa_replaceStart 71 ls st (h.set a (2, fs.set 1 (.int x))) c z Q) : tv_Ev G mm_Pa_replaceStart 68 ls (.int x :: .ref a :: st) h c z Q := ev_putI 2 1 (show decode mm_Pa_replaceStart.2.1 68 = .ok (.putfield 15, 3) by decide +kernel) fp_Pa_replaceStart_68 hh hj kk
theorem e_Pa_replaceStart_71 (hQ : Q (.inl none) h) : tv_Ev G mm_Pa_replaceStart 71 ls [] h c z Q := ev_return (show decode mm_Pa_replaceStart.2.1 71 = .ok (.return_, 1) by decide +kernel) rfl hQ
end
end
