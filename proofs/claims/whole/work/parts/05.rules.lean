/-! THE RULES: one a kind of instruction; by program (wip/tools/gen05.py) -/
section
variable {G : tv_G} {k : tv_M} {pc : Nat} {ls : List (Option Value)} {st : List Value} {h : tv_H} {c z : Nat} {Q : tv_R → tv_H → Prop}
theorem ev_iconst {n : Int} (v : Int32) (hd : decode k.2.1 pc = .ok (.iconst n, 1)) (hv : Int32.ofInt n = v) (kk : tv_Ev G k (pc + 1) ls (.int v :: st) h c z Q) : tv_Ev G k pc ls st h c z Q := by
  intro p l e R s m args below meth cd H locs cells slots mc ms D ct A as0 ws lsm stm I hT
  exact lv_iconst I.1.2.1 I.1.2.2.1 hd hv (kk p l e R s m args below meth cd H locs cells slots mc ms D ct A as0 ws lsm _ I ⟨rfl, hT⟩)
theorem ev_bipush {n : Int} (v : Int32) (hd : decode k.2.1 pc = .ok (.bipush n, 2)) (hv : (Int8.ofInt n).toInt32 = v) (kk : tv_Ev G k (pc + 2) ls (.int v :: st) h c z Q) : tv_Ev G k pc ls st h c z Q := by
  intro p l e R s m args below meth cd H locs cells slots mc ms D ct A as0 ws lsm stm I hT
  exact lv_bipush I.1.2.1 I.1.2.2.1 hd hv (kk p l e R s m args below meth cd H locs cells slots mc ms D ct A as0 ws lsm _ I ⟨rfl, hT⟩)
theorem ev_sipush {n : Int} (v : Int32) (hd : decode k.2.1 pc = .ok (.sipush n, 3)) (hv : (Int16.ofInt n).toInt32 = v) (kk : tv_Ev G k (pc + 3) ls (.int v :: st) h c z Q) : tv_Ev G k pc ls st h c z Q := by
  intro p l e R s m args below meth cd H locs cells slots mc ms D ct A as0 ws lsm stm I hT
  exact lv_sipush I.1.2.1 I.1.2.2.1 hd hv (kk p l e R s m args below meth cd H locs cells slots mc ms D ct A as0 ws lsm _ I ⟨rfl, hT⟩)
theorem ev_iload_n {j : Fin 4} {i : Nat} {x : Int32} (hd : decode k.2.1 pc = .ok (.iload_n j, 1)) (hi : (j : Nat) = i) (hl : ls[i]? = some (some (.int x))) (kk : tv_Ev G k (pc + 1) ls (.int x :: st) h c z Q) : tv_Ev G k pc ls st h c z Q := by
  intro p l e R s m args below meth cd H locs cells slots mc ms D ct A as0 ws lsm stm I hT
  obtain ⟨w, hw, hg⟩ := I.2.2.2.2.2.2.1.get hl
  have hw : w = .int x := hw
  subst hw
  exact lv_iload_n I.1.2.1 I.1.2.2.1 hd hi hg (kk p l e R s m args below meth cd H locs cells slots mc ms D ct A as0 ws lsm _ I ⟨rfl, hT⟩)
theorem ev_iload {i : Nat} {x : Int32} (hd : decode k.2.1 pc = .ok (.iload i, 2)) (hl : ls[i]? = some (some (.int x))) (kk : tv_Ev G k (pc + 2) ls (.int x :: st) h c z Q) : tv_Ev G k pc ls st h c z Q := by
  intro p l e R s m args below meth cd H locs cells slots mc ms D ct A as0 ws lsm stm I hT
  obtain ⟨w, hw, hg⟩ := I.2.2.2.2.2.2.1.get hl
  have hw : w = .int x := hw
  subst hw
  exact lv_iload I.1.2.1 I.1.2.2.1 hd hg (kk p l e R s m args below meth cd H locs cells slots mc ms D ct A as0 ws lsm _ I ⟨rfl, hT⟩)
theorem ev_aload_n {j : Fin 4} {i : Nat} {x : Nat} (hd : decode k.2.1 pc = .ok (.aload_n j, 1)) (hi : (j : Nat) = i) (hl : ls[i]? = some (some (.ref x))) (kk : tv_Ev G k (pc + 1) ls (.ref x :: st) h c z Q) : tv_Ev G k pc ls st h c z Q := by
  intro p l e R s m args below meth cd H locs cells slots mc ms D ct A as0 ws lsm stm I hT
  obtain ⟨w, ⟨q, hq, hw⟩, hg⟩ := I.2.2.2.2.2.2.1.get hl
  subst hw
  exact lv_aload_n I.1.2.1 I.1.2.2.1 hd hi hg (kk p l e R s m args below meth cd H locs cells slots mc ms D ct A as0 ws lsm _ I ⟨⟨q, hq, rfl⟩, hT⟩)
theorem ev_aload_nX {j : Fin 4} {i : Nat} {x : Nat} (hd : decode k.2.1 pc = .ok (.aload_n j, 1)) (hi : (j : Nat) = i) (hl : ls[i]? = some (some (.retAddr x))) (kk : tv_Ev G k (pc + 1) ls (.retAddr x :: st) h c z Q) : tv_Ev G k pc ls st h c z Q := by
  intro p l e R s m args below meth cd H locs cells slots mc ms D ct A as0 ws lsm stm I hT
  obtain ⟨w, hw, hg⟩ := I.2.2.2.2.2.2.1.get hl
  have hw : w = .ref x := hw
  subst hw
  exact lv_aload_n I.1.2.1 I.1.2.2.1 hd hi hg (kk p l e R s m args below meth cd H locs cells slots mc ms D ct A as0 ws lsm _ I ⟨rfl, hT⟩)
theorem ev_aload {i : Nat} {x : Nat} (hd : decode k.2.1 pc = .ok (.aload i, 2)) (hl : ls[i]? = some (some (.ref x))) (kk : tv_Ev G k (pc + 2) ls (.ref x :: st) h c z Q) : tv_Ev G k pc ls st h c z Q := by
  intro p l e R s m args below meth cd H locs cells slots mc ms D ct A as0 ws lsm stm I hT
  obtain ⟨w, ⟨q, hq, hw⟩, hg⟩ := I.2.2.2.2.2.2.1.get hl
  subst hw
  exact lv_aload I.1.2.1 I.1.2.2.1 hd hg (kk p l e R s m args below meth cd H locs cells slots mc ms D ct A as0 ws lsm _ I ⟨⟨q, hq, rfl⟩, hT⟩)
theorem ev_aloadX {i : Nat} {x : Nat} (hd : decode k.2.1 pc = .ok (.aload i, 2)) (hl : ls[i]? = some (some (.retAddr x))) (kk : tv_Ev G k (pc + 2) ls (.retAddr x :: st) h c z Q) : tv_Ev G k pc ls st h c z Q := by
  intro p l e R s m args below meth cd H locs cells slots mc ms D ct A as0 ws lsm stm I hT
  obtain ⟨w, hw, hg⟩ := I.2.2.2.2.2.2.1.get hl
  have hw : w = .ref x := hw
  subst hw
  exact lv_aload I.1.2.1 I.1.2.2.1 hd hg (kk p l e R s m args below meth cd H locs cells slots mc ms D ct A as0 ws lsm _ I ⟨rfl, hT⟩)
theorem tv_I.loc {ls' : List (Option Value)} {lsm' : Array Slot} {p : Program} {l : Launch} {R : Room} {s : State} {m : MethodId} {args : Array Value} {meth : Method} {cd : Code} {H : Heap} {locs : List Loc} {cells slots mc ms : Nat} {D : va_G} {ct : Nat → ClassId} {A : Nat → Prop} {as0 : List Nat} {ws : va_W} {lsm : Array Slot}
    (I : tv_I G k ls h c z p l R s m args meth cd H locs cells slots mc ms D ct A as0 ws lsm) (hl : tv_L (ws.map Prod.fst) ls' lsm' k.2.2.1) : tv_I G k ls' h c z p l R s m args meth cd H locs cells slots mc ms D ct A as0 ws lsm' := by
  obtain ⟨i1, i2, i3, i4, i5, i6, -, i8⟩ := I
  exact ⟨i1, i2, i3, i4, i5, i6, hl, i8⟩
theorem tv_I.heap {h' : tv_H} {ws' : va_W} {H1 : Heap} {locs1 : List Loc} {p : Program} {l : Launch} {R : Room} {s : State} {m : MethodId} {args : Array Value} {meth : Method} {cd : Code} {H : Heap} {locs : List Loc} {cells slots mc ms : Nat} {D : va_G} {ct : Nat → ClassId} {A : Nat → Prop} {as0 : List Nat} {ws : va_W} {lsm : Array Slot}
    (I : tv_I G k ls h c z p l R s m args meth cd H locs cells slots mc ms D ct A as0 ws lsm) (hP : va_P D tc_cl ws' H1) (hD : va_D A ws') (hS : va_S A s.heap H1 locs1) (hf : ws'.map Prod.fst = ws.map Prod.fst) (hh : tv_hs (ws.map Prod.fst) ct h' ws') :
    tv_I G k ls h' c z p l R s m args meth cd H1 locs1 cells slots mc ms D ct A as0 ws' lsm := by
  obtain ⟨i1, i2, i3, i4, i5, i6, i7, i8⟩ := I
  exact ⟨i1, i2, i3, ⟨hP, hD, by rw [hf]; exact hh⟩, hS, by rw [hf]; exact i6, by rw [hf]; exact i7, i8⟩
/-- a new cell -/
theorem tv_I.push {e : tv_E} {q : Nat} {x : va_E} {n : Nat} {H1 : Heap} {locs1 : List Loc} {p : Program} {l : Launch} {R : Room} {s : State} {m : MethodId} {args : Array Value} {meth : Method} {cd : Code} {H : Heap} {locs : List Loc} {cells slots mc ms : Nat} {D : va_G} {ct : Nat → ClassId} {A : Nat → Prop} {as0 : List Nat} {ws : va_W} {lsm : Array Slot}
    (I : tv_I G k ls h (c + 1) (z + n) p l R s m args meth cd H locs cells slots mc ms D ct A as0 ws lsm) (hP : va_P D tc_cl (ws ++ [(q, x)]) H1) (hD : va_D A (ws ++ [(q, x)])) (hS : va_S A s.heap H1 locs1) (he : tv_e ((ws ++ [(q, x)]).map Prod.fst) ct e x) :
    tv_I G k ls (h ++ [e]) c z p l R s m args meth cd H1 locs1 (cells + 1) (slots + n) mc ms D ct A as0 (ws ++ [(q, x)]) lsm := by
  obtain ⟨i1, i2, i3, ⟨j1, j2, j3⟩, i5, i6, i7, i8, i9, i10⟩ := I
  have hpre : ws.map Prod.fst <+: (ws ++ [(q, x)]).map Prod.fst := by rw [List.map_append]; exact List.prefix_append _ _
  exact ⟨i1, i2, i3, ⟨hP, hD, (j3.mono hpre).push he⟩, hS, i6.trans hpre, i7.mono hpre, by omega, by omega, i10⟩
theorem ev_istore_n {j : Fin 4} {i : Nat} {x : Int32} (hd : decode k.2.1 pc = .ok (.istore_n j, 1)) (hi : (j : Nat) = i) (hi2 : i < ls.length) (kk : tv_Ev G k (pc + 1) (ls.set i (some (.int x))) st h c z Q) : tv_Ev G k pc ls (.int x :: st) h c z Q := by
  intro p l e R s m args below meth cd H locs cells slots mc ms D ct A as0 ws lsm stm I hT
  obtain ⟨w, s1, rfl, hw, hR⟩ := hT.cons
  have hw : w = .int x := hw
  subst hw
  obtain ⟨h0, lv, h1, h2⟩ := id I.2.2.2.2.2.2.1
  exact lv_istore_n I.1.2.1 I.1.2.2.1 hd hi h1 (h0 ▸ hi2) rfl (fun lsm' hl' => kk p l e R s m args below meth cd H locs cells slots mc ms D ct A as0 ws lsm' _ (I.loc (tv_L.set h0 h2 (v := .int x) rfl rfl hl')) hR)
theorem ev_istore {i : Nat} {x : Int32} (hd : decode k.2.1 pc = .ok (.istore i, 2)) (hi2 : i < ls.length) (kk : tv_Ev G k (pc + 2) (ls.set i (some (.int x))) st h c z Q) : tv_Ev G k pc ls (.int x :: st) h c z Q := by
  intro p l e R s m args below meth cd H locs cells slots mc ms D ct A as0 ws lsm stm I hT
  obtain ⟨w, s1, rfl, hw, hR⟩ := hT.cons
  have hw : w = .int x := hw
  subst hw
  obtain ⟨h0, lv, h1, h2⟩ := id I.2.2.2.2.2.2.1
  exact lv_istore I.1.2.1 I.1.2.2.1 hd h1 (h0 ▸ hi2) rfl (fun lsm' hl' => kk p l e R s m args below meth cd H locs cells slots mc ms D ct A as0 ws lsm' _ (I.loc (tv_L.set h0 h2 (v := .int x) rfl rfl hl')) hR)
theorem ev_astore_n {j : Fin 4} {i : Nat} {x : Nat} (hd : decode k.2.1 pc = .ok (.astore_n j, 1)) (hi : (j : Nat) = i) (hi2 : i < ls.length) (kk : tv_Ev G k (pc + 1) (ls.set i (some (.ref x))) st h c z Q) : tv_Ev G k pc ls (.ref x :: st) h c z Q := by
  intro p l e R s m args below meth cd H locs cells slots mc ms D ct A as0 ws lsm stm I hT
  obtain ⟨w, s1, rfl, ⟨q, hq, rfl⟩, hR⟩ := hT.cons
  obtain ⟨h0, lv, h1, h2⟩ := id I.2.2.2.2.2.2.1
  exact lv_astore_n I.1.2.1 I.1.2.2.1 hd hi h1 (h0 ▸ hi2) rfl (fun lsm' hl' => kk p l e R s m args below meth cd H locs cells slots mc ms D ct A as0 ws lsm' _ (I.loc (tv_L.set h0 h2 (v := .ref x) ⟨q, hq, rfl⟩ rfl hl')) hR)
theorem ev_astore_nX {j : Fin 4} {i : Nat} {x : Nat} (hd : decode k.2.1 pc = .ok (.astore_n j, 1)) (hi : (j : Nat) = i) (hi2 : i < ls.length) (kk : tv_Ev G k (pc + 1) (ls.set i (some (.retAddr x))) st h c z Q) : tv_Ev G k pc ls (.retAddr x :: st) h c z Q := by
  intro p l e R s m args below meth cd H locs cells slots mc ms D ct A as0 ws lsm stm I hT
  obtain ⟨w, s1, rfl, hw, hR⟩ := hT.cons
  have hw : w = .ref x := hw
  subst hw
  obtain ⟨h0, lv, h1, h2⟩ := id I.2.2.2.2.2.2.1
  exact lv_astore_n I.1.2.1 I.1.2.2.1 hd hi h1 (h0 ▸ hi2) rfl (fun lsm' hl' => kk p l e R s m args below meth cd H locs cells slots mc ms D ct A as0 ws lsm' _ (I.loc (tv_L.set h0 h2 (v := .retAddr x) rfl rfl hl')) hR)
theorem ev_astore {i : Nat} {x : Nat} (hd : decode k.2.1 pc = .ok (.astore i, 2)) (hi2 : i < ls.length) (kk : tv_Ev G k (pc + 2) (ls.set i (some (.ref x))) st h c z Q) : tv_Ev G k pc ls (.ref x :: st) h c z Q := by
  intro p l e R s m args below meth cd H locs cells slots mc ms D ct A as0 ws lsm stm I hT
  obtain ⟨w, s1, rfl, ⟨q, hq, rfl⟩, hR⟩ := hT.cons
  obtain ⟨h0, lv, h1, h2⟩ := id I.2.2.2.2.2.2.1
  exact lv_astore I.1.2.1 I.1.2.2.1 hd h1 (h0 ▸ hi2) rfl (fun lsm' hl' => kk p l e R s m args below meth cd H locs cells slots mc ms D ct A as0 ws lsm' _ (I.loc (tv_L.set h0 h2 (v := .ref x) ⟨q, hq, rfl⟩ rfl hl')) hR)
theorem ev_astoreX {i : Nat} {x : Nat} (hd : decode k.2.1 pc = .ok (.astore i, 2)) (hi2 : i < ls.length) (kk : tv_Ev G k (pc + 2) (ls.set i (some (.retAddr x))) st h c z Q) : tv_Ev G k pc ls (.retAddr x :: st) h c z Q := by
  intro p l e R s m args below meth cd H locs cells slots mc ms D ct A as0 ws lsm stm I hT
  obtain ⟨w, s1, rfl, hw, hR⟩ := hT.cons
  have hw : w = .ref x := hw
  subst hw
  obtain ⟨h0, lv, h1, h2⟩ := id I.2.2.2.2.2.2.1
  exact lv_astore I.1.2.1 I.1.2.2.1 hd h1 (h0 ▸ hi2) rfl (fun lsm' hl' => kk p l e R s m args below meth cd H locs cells slots mc ms D ct A as0 ws lsm' _ (I.loc (tv_L.set h0 h2 (v := .retAddr x) rfl rfl hl')) hR)
theorem ev_iinc {i : Nat} {n : Int} {x : Int32} (v : Int32) (hd : decode k.2.1 pc = .ok (.iinc i n, 3)) (hl : ls[i]? = some (some (.int x))) (hv : x + Int32.ofInt n = v) (kk : tv_Ev G k (pc + 3) (ls.set i (some (.int v))) st h c z Q) : tv_Ev G k pc ls st h c z Q := by
  intro p l e R s m args below meth cd H locs cells slots mc ms D ct A as0 ws lsm stm I hT
  obtain ⟨h0, lv, h1, h2⟩ := id I.2.2.2.2.2.2.1
  obtain ⟨w, hw, hc, hm⟩ := h2 i _ hl
  have hw : w = .int x := hw
  subst hw
  obtain ⟨j, hj⟩ := List.getElem?_of_mem hm
  exact lv_iinc I.1.2.1 I.1.2.2.1 hd h1 hj hv (h0 ▸ (List.getElem?_eq_some_iff.mp hl).1) rfl (fun lsm' hl' => kk p l e R s m args below meth cd H locs cells slots mc ms D ct A as0 ws lsm' _ (I.loc (tv_L.set h0 h2 (v := .int v) rfl rfl hl')) hT)
theorem ev_iadd {x y : Int32} (hd : decode k.2.1 pc = .ok (.iadd, 1)) (kk : tv_Ev G k (pc + 1) ls (.int (x + y) :: st) h c z Q) : tv_Ev G k pc ls (.int y :: .int x :: st) h c z Q := by
  intro p l e R s m args below meth cd H locs cells slots mc ms D ct A as0 ws lsm stm I hT
  obtain ⟨w1, s1, rfl, e1, hR⟩ := hT.cons
  obtain ⟨w2, s2, rfl, e2, hR2⟩ := hR.cons
  have e1 : w1 = .int y := e1
  have e2 : w2 = .int x := e2
  subst e1; subst e2
  exact lv_iadd I.1.2.1 I.1.2.2.1 hd (kk p l e R s m args below meth cd H locs cells slots mc ms D ct A as0 ws lsm _ I ⟨rfl, hR2⟩)
theorem ev_isub {x y : Int32} (hd : decode k.2.1 pc = .ok (.isub, 1)) (kk : tv_Ev G k (pc + 1) ls (.int (x - y) :: st) h c z Q) : tv_Ev G k pc ls (.int y :: .int x :: st) h c z Q := by
  intro p l e R s m args below meth cd H locs cells slots mc ms D ct A as0 ws lsm stm I hT
  obtain ⟨w1, s1, rfl, e1, hR⟩ := hT.cons
  obtain ⟨w2, s2, rfl, e2, hR2⟩ := hR.cons
  have e1 : w1 = .int y := e1
  have e2 : w2 = .int x := e2
  subst e1; subst e2
  exact lv_isub I.1.2.1 I.1.2.2.1 hd (kk p l e R s m args below meth cd H locs cells slots mc ms D ct A as0 ws lsm _ I ⟨rfl, hR2⟩)
theorem ev_imul {x y : Int32} (hd : decode k.2.1 pc = .ok (.imul, 1)) (kk : tv_Ev G k (pc + 1) ls (.int (x * y) :: st) h c z Q) : tv_Ev G k pc ls (.int y :: .int x :: st) h c z Q := by
  intro p l e R s m args below meth cd H locs cells slots mc ms D ct A as0 ws lsm stm I hT
  obtain ⟨w1, s1, rfl, e1, hR⟩ := hT.cons
  obtain ⟨w2, s2, rfl, e2, hR2⟩ := hR.cons
  have e1 : w1 = .int y := e1
  have e2 : w2 = .int x := e2
  subst e1; subst e2
  exact lv_imul I.1.2.1 I.1.2.2.1 hd (kk p l e R s m args below meth cd H locs cells slots mc ms D ct A as0 ws lsm _ I ⟨rfl, hR2⟩)
theorem ev_iand {x y : Int32} (hd : decode k.2.1 pc = .ok (.iand, 1)) (kk : tv_Ev G k (pc + 1) ls (.int (x &&& y) :: st) h c z Q) : tv_Ev G k pc ls (.int y :: .int x :: st) h c z Q := by
  intro p l e R s m args below meth cd H locs cells slots mc ms D ct A as0 ws lsm stm I hT
  obtain ⟨w1, s1, rfl, e1, hR⟩ := hT.cons
  obtain ⟨w2, s2, rfl, e2, hR2⟩ := hR.cons
  have e1 : w1 = .int y := e1
  have e2 : w2 = .int x := e2
  subst e1; subst e2
  exact lv_iand I.1.2.1 I.1.2.2.1 hd (kk p l e R s m args below meth cd H locs cells slots mc ms D ct A as0 ws lsm _ I ⟨rfl, hR2⟩)
theorem ev_ior {x y : Int32} (hd : decode k.2.1 pc = .ok (.ior, 1)) (kk : tv_Ev G k (pc + 1) ls (.int (x ||| y) :: st) h c z Q) : tv_Ev G k pc ls (.int y :: .int x :: st) h c z Q := by
  intro p l e R s m args below meth cd H locs cells slots mc ms D ct A as0 ws lsm stm I hT
  obtain ⟨w1, s1, rfl, e1, hR⟩ := hT.cons
  obtain ⟨w2, s2, rfl, e2, hR2⟩ := hR.cons
  have e1 : w1 = .int y := e1
  have e2 : w2 = .int x := e2
  subst e1; subst e2
  exact lv_ior I.1.2.1 I.1.2.2.1 hd (kk p l e R s m args below meth cd H locs cells slots mc ms D ct A as0 ws lsm _ I ⟨rfl, hR2⟩)
theorem ev_ishl {x y : Int32} (hd : decode k.2.1 pc = .ok (.ishl, 1)) (kk : tv_Ev G k (pc + 1) ls (.int (x <<< (y &&& 31)) :: st) h c z Q) : tv_Ev G k pc ls (.int y :: .int x :: st) h c z Q := by
  intro p l e R s m args below meth cd H locs cells slots mc ms D ct A as0 ws lsm stm I hT
  obtain ⟨w1, s1, rfl, e1, hR⟩ := hT.cons
  obtain ⟨w2, s2, rfl, e2, hR2⟩ := hR.cons
  have e1 : w1 = .int y := e1
  have e2 : w2 = .int x := e2
  subst e1; subst e2
  exact lv_ishl I.1.2.1 I.1.2.2.1 hd (kk p l e R s m args below meth cd H locs cells slots mc ms D ct A as0 ws lsm _ I ⟨rfl, hR2⟩)
theorem ev_ishr {x y : Int32} (hd : decode k.2.1 pc = .ok (.ishr, 1)) (kk : tv_Ev G k (pc + 1) ls (.int (x >>> (y &&& 31)) :: st) h c z Q) : tv_Ev G k pc ls (.int y :: .int x :: st) h c z Q := by
  intro p l e R s m args below meth cd H locs cells slots mc ms D ct A as0 ws lsm stm I hT
  obtain ⟨w1, s1, rfl, e1, hR⟩ := hT.cons
  obtain ⟨w2, s2, rfl, e2, hR2⟩ := hR.cons
  have e1 : w1 = .int y := e1
  have e2 : w2 = .int x := e2
  subst e1; subst e2
  exact lv_ishr I.1.2.1 I.1.2.2.1 hd (kk p l e R s m args below meth cd H locs cells slots mc ms D ct A as0 ws lsm _ I ⟨rfl, hR2⟩)
theorem ev_iushr {x y : Int32} (hd : decode k.2.1 pc = .ok (.iushr, 1)) (kk : tv_Ev G k (pc + 1) ls (.int ((x.toUInt32 >>> (y.toUInt32 &&& Int32.toUInt32 31)).toInt32) :: st) h c z Q) : tv_Ev G k pc ls (.int y :: .int x :: st) h c z Q := by
  intro p l e R s m args below meth cd H locs cells slots mc ms D ct A as0 ws lsm stm I hT
  obtain ⟨w1, s1, rfl, e1, hR⟩ := hT.cons
  obtain ⟨w2, s2, rfl, e2, hR2⟩ := hR.cons
  have e1 : w1 = .int y := e1
  have e2 : w2 = .int x := e2
  subst e1; subst e2
  exact lv_iushr I.1.2.1 I.1.2.2.1 hd rfl (kk p l e R s m args below meth cd H locs cells slots mc ms D ct A as0 ws lsm _ I ⟨rfl, hR2⟩)
theorem ev_i2b {x : Int32} (hd : decode k.2.1 pc = .ok (.i2b, 1)) (kk : tv_Ev G k (pc + 1) ls (.int x.toInt8.toInt32 :: st) h c z Q) : tv_Ev G k pc ls (.int x :: st) h c z Q := by
  intro p l e R s m args below meth cd H locs cells slots mc ms D ct A as0 ws lsm stm I hT
  obtain ⟨w1, s1, rfl, e1, hR⟩ := hT.cons
  have e1 : w1 = .int x := e1
  subst e1
  exact lv_i2b I.1.2.1 I.1.2.2.1 hd rfl (kk p l e R s m args below meth cd H locs cells slots mc ms D ct A as0 ws lsm _ I ⟨rfl, hR⟩)
theorem ev_i2l {x : Int32} (hd : decode k.2.1 pc = .ok (.i2l, 1)) (kk : tv_Ev G k (pc + 1) ls (.long x.toInt64 :: st) h c z Q) : tv_Ev G k pc ls (.int x :: st) h c z Q := by
  intro p l e R s m args below meth cd H locs cells slots mc ms D ct A as0 ws lsm stm I hT
  obtain ⟨w1, s1, rfl, e1, hR⟩ := hT.cons
  have e1 : w1 = .int x := e1
  subst e1
  exact lv_i2l I.1.2.1 I.1.2.2.1 hd rfl (kk p l e R s m args below meth cd H locs cells slots mc ms D ct A as0 ws lsm _ I ⟨rfl, hR⟩)
theorem ev_lcmp {x y : Int64} (hd : decode k.2.1 pc = .ok (.lcmp, 1)) (kk : tv_Ev G k (pc + 1) ls (.int (lg_cmp x y) :: st) h c z Q) : tv_Ev G k pc ls (.long y :: .long x :: st) h c z Q := by
  intro p l e R s m args below meth cd H locs cells slots mc ms D ct A as0 ws lsm stm I hT
  obtain ⟨w1, s1, rfl, e1, hR⟩ := hT.cons
  obtain ⟨w2, s2, rfl, e2, hR2⟩ := hR.cons
  have e1 : w1 = .long y := e1
  have e2 : w2 = .long x := e2
  subst e1; subst e2
  exact W.lcmp I.1.2.1 I.1.2.2.1 hd (kk p l e R s m args below meth cd H locs cells slots mc ms D ct A as0 ws lsm _ I ⟨rfl, hR2⟩)
theorem ev_dup {v : Value} (hd : decode k.2.1 pc = .ok (.dup, 1)) (hv : v.category = 1) (kk : tv_Ev G k (pc + 1) ls (v :: v :: st) h c z Q) : tv_Ev G k pc ls (v :: st) h c z Q := by
  intro p l e R s m args below meth cd H locs cells slots mc ms D ct A as0 ws lsm stm I hT
  obtain ⟨w1, s1, rfl, e1, hR⟩ := hT.cons
  exact lv_dup I.1.2.1 I.1.2.2.1 hd (e1.cat.trans hv) (kk p l e R s m args below meth cd H locs cells slots mc ms D ct A as0 ws lsm _ I ⟨e1, e1, hR⟩)
theorem ev_pop {v : Value} (hd : decode k.2.1 pc = .ok (.pop, 1)) (hv : v.category = 1) (kk : tv_Ev G k (pc + 1) ls st h c z Q) : tv_Ev G k pc ls (v :: st) h c z Q := by
  intro p l e R s m args below meth cd H locs cells slots mc ms D ct A as0 ws lsm stm I hT
  obtain ⟨w1, s1, rfl, e1, hR⟩ := hT.cons
  exact lv_pop I.1.2.1 I.1.2.2.1 hd (e1.cat.trans hv) (kk p l e R s m args below meth cd H locs cells slots mc ms D ct A as0 ws lsm _ I hR)
theorem ev_dup2 {v u : Value} (hd : decode k.2.1 pc = .ok (.dup2, 1)) (hv : v.category = 1) (hu : u.category = 1) (kk : tv_Ev G k (pc + 1) ls (v :: u :: v :: u :: st) h c z Q) : tv_Ev G k pc ls (v :: u :: st) h c z Q := by
  intro p l e R s m args below meth cd H locs cells slots mc ms D ct A as0 ws lsm stm I hT
  obtain ⟨w1, s1, rfl, e1, hR⟩ := hT.cons
  obtain ⟨w2, s2, rfl, e2, hR2⟩ := hR.cons
  exact lv_dup2_11 I.1.2.1 I.1.2.2.1 hd (e1.cat.trans hv) (e2.cat.trans hu) (kk p l e R s m args below meth cd H locs cells slots mc ms D ct A as0 ws lsm _ I ⟨e1, e2, e1, e2, hR2⟩)
theorem ev_icmp_eq {x y : Int32} {off : Int} (tgt : Nat) (hd : decode k.2.1 pc = .ok (.if_icmp .eq off, 3)) (ht : (pc : Int) + off = (tgt : Int)) (kt : x = y → tv_Ev G k tgt ls st h c z Q) (kf : ¬ (x = y) → tv_Ev G k (pc + 3) ls st h c z Q) : tv_Ev G k pc ls (.int y :: .int x :: st) h c z Q := by
  intro p l e R s m args below meth cd H locs cells slots mc ms D ct A as0 ws lsm stm I hT
  obtain ⟨w1, s1, rfl, e1, hR⟩ := hT.cons
  obtain ⟨w2, s2, rfl, e2, hR2⟩ := hR.cons
  have e1 : w1 = .int y := e1
  have e2 : w2 = .int x := e2
  subst e1; subst e2
  exact lv_icmp_eq I.1.2.1 I.1.2.2.1 hd ht (fun q => kt q p l e R s m args below meth cd H locs cells slots mc ms D ct A as0 ws lsm _ I hR2) (fun q => kf q p l e R s m args below meth cd H locs cells slots mc ms D ct A as0 ws lsm _ I hR2)
theorem ev_if_eq {x : Int32} {off : Int} (tgt : Nat) (hd : decode k.2.1 pc = .ok (.ifCond .eq off, 3)) (ht : (pc : Int) + off = (tgt : Int)) (kt : x = 0 → tv_Ev G k tgt ls st h c z Q) (kf : ¬ (x = 0) → tv_Ev G k (pc + 3) ls st h c z Q) : tv_Ev G k pc ls (.int x :: st) h c z Q := by
  intro p l e R s m args below meth cd H locs cells slots mc ms D ct A as0 ws lsm stm I hT
  obtain ⟨w1, s1, rfl, e1, hR⟩ := hT.cons
  have e1 : w1 = .int x := e1
  subst e1
  exact lv_if_eq I.1.2.1 I.1.2.2.1 hd ht (fun q => kt q p l e R s m args below meth cd H locs cells slots mc ms D ct A as0 ws lsm _ I hR) (fun q => kf q p l e R s m args below meth cd H locs cells slots mc ms D ct A as0 ws lsm _ I hR)
theorem ev_icmp_ne {x y : Int32} {off : Int} (tgt : Nat) (hd : decode k.2.1 pc = .ok (.if_icmp .ne off, 3)) (ht : (pc : Int) + off = (tgt : Int)) (kt : ¬ x = y → tv_Ev G k tgt ls st h c z Q) (kf : x = y → tv_Ev G k (pc + 3) ls st h c z Q) : tv_Ev G k pc ls (.int y :: .int x :: st) h c z Q := by
  intro p l e R s m args below meth cd H locs cells slots mc ms D ct A as0 ws lsm stm I hT
  obtain ⟨w1, s1, rfl, e1, hR⟩ := hT.cons
  obtain ⟨w2, s2, rfl, e2, hR2⟩ := hR.cons
  have e1 : w1 = .int y := e1
  have e2 : w2 = .int x := e2
  subst e1; subst e2
  exact lv_icmp_ne I.1.2.1 I.1.2.2.1 hd ht (fun q => kt q p l e R s m args below meth cd H locs cells slots mc ms D ct A as0 ws lsm _ I hR2) (fun q => kf q p l e R s m args below meth cd H locs cells slots mc ms D ct A as0 ws lsm _ I hR2)
theorem ev_if_ne {x : Int32} {off : Int} (tgt : Nat) (hd : decode k.2.1 pc = .ok (.ifCond .ne off, 3)) (ht : (pc : Int) + off = (tgt : Int)) (kt : ¬ x = 0 → tv_Ev G k tgt ls st h c z Q) (kf : x = 0 → tv_Ev G k (pc + 3) ls st h c z Q) : tv_Ev G k pc ls (.int x :: st) h c z Q := by
  intro p l e R s m args below meth cd H locs cells slots mc ms D ct A as0 ws lsm stm I hT
  obtain ⟨w1, s1, rfl, e1, hR⟩ := hT.cons
  have e1 : w1 = .int x := e1
  subst e1
  exact lv_if_ne I.1.2.1 I.1.2.2.1 hd ht (fun q => kt q p l e R s m args below meth cd H locs cells slots mc ms D ct A as0 ws lsm _ I hR) (fun q => kf q p l e R s m args below meth cd H locs cells slots mc ms D ct A as0 ws lsm _ I hR)
theorem ev_icmp_lt {x y : Int32} {off : Int} (tgt : Nat) (hd : decode k.2.1 pc = .ok (.if_icmp .lt off, 3)) (ht : (pc : Int) + off = (tgt : Int)) (kt : x < y → tv_Ev G k tgt ls st h c z Q) (kf : ¬ (x < y) → tv_Ev G k (pc + 3) ls st h c z Q) : tv_Ev G k pc ls (.int y :: .int x :: st) h c z Q := by
  intro p l e R s m args below meth cd H locs cells slots mc ms D ct A as0 ws lsm stm I hT
  obtain ⟨w1, s1, rfl, e1, hR⟩ := hT.cons
  obtain ⟨w2, s2, rfl, e2, hR2⟩ := hR.cons
  have e1 : w1 = .int y := e1
  have e2 : w2 = .int x := e2
  subst e1; subst e2
  exact lv_icmp_lt I.1.2.1 I.1.2.2.1 hd ht (fun q => kt q p l e R s m args below meth cd H locs cells slots mc ms D ct A as0 ws lsm _ I hR2) (fun q => kf q p l e R s m args below meth cd H locs cells slots mc ms D ct A as0 ws lsm _ I hR2)
theorem ev_if_lt {x : Int32} {off : Int} (tgt : Nat) (hd : decode k.2.1 pc = .ok (.ifCond .lt off, 3)) (ht : (pc : Int) + off = (tgt : Int)) (kt : x < 0 → tv_Ev G k tgt ls st h c z Q) (kf : ¬ (x < 0) → tv_Ev G k (pc + 3) ls st h c z Q) : tv_Ev G k pc ls (.int x :: st) h c z Q := by
  intro p l e R s m args below meth cd H locs cells slots mc ms D ct A as0 ws lsm stm I hT
  obtain ⟨w1, s1, rfl, e1, hR⟩ := hT.cons
  have e1 : w1 = .int x := e1
  subst e1
  exact lv_if_lt I.1.2.1 I.1.2.2.1 hd ht (fun q => kt q p l e R s m args below meth cd H locs cells slots mc ms D ct A as0 ws lsm _ I hR) (fun q => kf q p l e R s m args below meth cd H locs cells slots mc ms D ct A as0 ws lsm _ I hR)
theorem ev_icmp_ge {x y : Int32} {off : Int} (tgt : Nat) (hd : decode k.2.1 pc = .ok (.if_icmp .ge off, 3)) (ht : (pc : Int) + off = (tgt : Int)) (kt : y ≤ x → tv_Ev G k tgt ls st h c z Q) (kf : ¬ (y ≤ x) → tv_Ev G k (pc + 3) ls st h c z Q) : tv_Ev G k pc ls (.int y :: .int x :: st) h c z Q := by
  intro p l e R s m args below meth cd H locs cells slots mc ms D ct A as0 ws lsm stm I hT
  obtain ⟨w1, s1, rfl, e1, hR⟩ := hT.cons
  obtain ⟨w2, s2, rfl, e2, hR2⟩ := hR.cons
  have e1 : w1 = .int y := e1
  have e2 : w2 = .int x := e2
  subst e1; subst e2
  exact lv_icmp_ge I.1.2.1 I.1.2.2.1 hd ht (fun q => kt q p l e R s m args below meth cd H locs cells slots mc ms D ct A as0 ws lsm _ I hR2) (fun q => kf q p l e R s m args below meth cd H locs cells slots mc ms D ct A as0 ws lsm _ I hR2)
theorem ev_if_ge {x : Int32} {off : Int} (tgt : Nat) (hd : decode k.2.1 pc = .ok (.ifCond .ge off, 3)) (ht : (pc : Int) + off = (tgt : Int)) (kt : 0 ≤ x → tv_Ev G k tgt ls st h c z Q) (kf : ¬ (0 ≤ x) → tv_Ev G k (pc + 3) ls st h c z Q) : tv_Ev G k pc ls (.int x :: st) h c z Q := by
  intro p l e R s m args below meth cd H locs cells slots mc ms D ct A as0 ws lsm stm I hT
  obtain ⟨w1, s1, rfl, e1, hR⟩ := hT.cons
  have e1 : w1 = .int x := e1
  subst e1
  exact lv_if_ge I.1.2.1 I.1.2.2.1 hd ht (fun q => kt q p l e R s m args below meth cd H locs cells slots mc ms D ct A as0 ws lsm _ I hR) (fun q => kf q p l e R s m args below meth cd H locs cells slots mc ms D ct A as0 ws lsm _ I hR)
theorem ev_icmp_gt {x y : Int32} {off : Int} (tgt : Nat) (hd : decode k.2.1 pc = .ok (.if_icmp .gt off, 3)) (ht : (pc : Int) + off = (tgt : Int)) (kt : y < x → tv_Ev G k tgt ls st h c z Q) (kf : ¬ (y < x) → tv_Ev G k (pc + 3) ls st h c z Q) : tv_Ev G k pc ls (.int y :: .int x :: st) h c z Q := by
  intro p l e R s m args below meth cd H locs cells slots mc ms D ct A as0 ws lsm stm I hT
  obtain ⟨w1, s1, rfl, e1, hR⟩ := hT.cons
  obtain ⟨w2, s2, rfl, e2, hR2⟩ := hR.cons
  have e1 : w1 = .int y := e1
  have e2 : w2 = .int x := e2
  subst e1; subst e2
  exact lv_icmp_gt I.1.2.1 I.1.2.2.1 hd ht (fun q => kt q p l e R s m args below meth cd H locs cells slots mc ms D ct A as0 ws lsm _ I hR2) (fun q => kf q p l e R s m args below meth cd H locs cells slots mc ms D ct A as0 ws lsm _ I hR2)
theorem ev_if_gt {x : Int32} {off : Int} (tgt : Nat) (hd : decode k.2.1 pc = .ok (.ifCond .gt off, 3)) (ht : (pc : Int) + off = (tgt : Int)) (kt : 0 < x → tv_Ev G k tgt ls st h c z Q) (kf : ¬ (0 < x) → tv_Ev G k (pc + 3) ls st h c z Q) : tv_Ev G k pc ls (.int x :: st) h c z Q := by
  intro p l e R s m args below meth cd H locs cells slots mc ms D ct A as0 ws lsm stm I hT
  obtain ⟨w1, s1, rfl, e1, hR⟩ := hT.cons
  have e1 : w1 = .int x := e1
  subst e1
  exact lv_if_gt I.1.2.1 I.1.2.2.1 hd ht (fun q => kt q p l e R s m args below meth cd H locs cells slots mc ms D ct A as0 ws lsm _ I hR) (fun q => kf q p l e R s m args below meth cd H locs cells slots mc ms D ct A as0 ws lsm _ I hR)
theorem ev_icmp_le {x y : Int32} {off : Int} (tgt : Nat) (hd : decode k.2.1 pc = .ok (.if_icmp .le off, 3)) (ht : (pc : Int) + off = (tgt : Int)) (kt : x ≤ y → tv_Ev G k tgt ls st h c z Q) (kf : ¬ (x ≤ y) → tv_Ev G k (pc + 3) ls st h c z Q) : tv_Ev G k pc ls (.int y :: .int x :: st) h c z Q := by
  intro p l e R s m args below meth cd H locs cells slots mc ms D ct A as0 ws lsm stm I hT
  obtain ⟨w1, s1, rfl, e1, hR⟩ := hT.cons
  obtain ⟨w2, s2, rfl, e2, hR2⟩ := hR.cons
  have e1 : w1 = .int y := e1
  have e2 : w2 = .int x := e2
  subst e1; subst e2
  exact lv_icmp_le I.1.2.1 I.1.2.2.1 hd ht (fun q => kt q p l e R s m args below meth cd H locs cells slots mc ms D ct A as0 ws lsm _ I hR2) (fun q => kf q p l e R s m args below meth cd H locs cells slots mc ms D ct A as0 ws lsm _ I hR2)
theorem ev_if_le {x : Int32} {off : Int} (tgt : Nat) (hd : decode k.2.1 pc = .ok (.ifCond .le off, 3)) (ht : (pc : Int) + off = (tgt : Int)) (kt : x ≤ 0 → tv_Ev G k tgt ls st h c z Q) (kf : ¬ (x ≤ 0) → tv_Ev G k (pc + 3) ls st h c z Q) : tv_Ev G k pc ls (.int x :: st) h c z Q := by
  intro p l e R s m args below meth cd H locs cells slots mc ms D ct A as0 ws lsm stm I hT
  obtain ⟨w1, s1, rfl, e1, hR⟩ := hT.cons
  have e1 : w1 = .int x := e1
  subst e1
  exact lv_if_le I.1.2.1 I.1.2.2.1 hd ht (fun q => kt q p l e R s m args below meth cd H locs cells slots mc ms D ct A as0 ws lsm _ I hR) (fun q => kf q p l e R s m args below meth cd H locs cells slots mc ms D ct A as0 ws lsm _ I hR)
theorem ev_goto {off : Int} (tgt : Nat) (hd : decode k.2.1 pc = .ok (.goto off, 3)) (ht : (pc : Int) + off = (tgt : Int)) (kk : tv_Ev G k tgt ls st h c z Q) : tv_Ev G k pc ls st h c z Q := by
  intro p l e R s m args below meth cd H locs cells slots mc ms D ct A as0 ws lsm stm I hT
  exact lv_goto I.1.2.1 I.1.2.2.1 hd ht (kk p l e R s m args below meth cd H locs cells slots mc ms D ct A as0 ws lsm _ I hT)
theorem ev_tableOut {dflt lo hi : Int} {offs : Array Int} {len : Nat} {x : Int32} (tgt : Nat) (hd : decode k.2.1 pc = .ok (.tableswitch dflt lo hi offs, len)) (hx : x.toInt < lo ∨ hi < x.toInt) (ht : (pc : Int) + dflt = (tgt : Int)) (kk : tv_Ev G k tgt ls st h c z Q) : tv_Ev G k pc ls (.int x :: st) h c z Q := by
  intro p l e R s m args below meth cd H locs cells slots mc ms D ct A as0 ws lsm stm I hT
  obtain ⟨w1, s1, rfl, e1, hR⟩ := hT.cons
  have e1 : w1 = .int x := e1
  subst e1
  exact lv_tableOut I.1.2.1 I.1.2.2.1 hd hx ht (kk p l e R s m args below meth cd H locs cells slots mc ms D ct A as0 ws lsm _ I hR)
theorem ev_tableIn {dflt lo hi : Int} {offs : Array Int} {len : Nat} {x : Int32} {off : Int} (tgt : Nat) (hd : decode k.2.1 pc = .ok (.tableswitch dflt lo hi offs, len)) (h1 : ¬ x.toInt < lo) (h2 : ¬ hi < x.toInt) (ho : offs[(x.toInt - lo).toNat]? = some off) (ht : (pc : Int) + off = (tgt : Int)) (kk : tv_Ev G k tgt ls st h c z Q) : tv_Ev G k pc ls (.int x :: st) h c z Q := by
  intro p l e R s m args below meth cd H locs cells slots mc ms D ct A as0 ws lsm stm I hT
  obtain ⟨w1, s1, rfl, e1, hR⟩ := hT.cons
  have e1 : w1 = .int x := e1
  subst e1
  exact lv_tableIn I.1.2.1 I.1.2.2.1 hd h1 h2 ho ht (kk p l e R s m args below meth cd H locs cells slots mc ms D ct A as0 ws lsm _ I hR)
end
