/-! THE RULES for throws, handlers, calls; a contract out of a walk -/
section
variable {G : tv_G} {k : tv_M} {pc : Nat} {ls : List (Option Value)} {st : List Value} {h : tv_H} {c z : Nat} {Q : tv_R → tv_H → Prop}
/-- E is thrown over the frame at pc -/
def tv_Xv (G : tv_G) (k : tv_M) (pc : Nat) (ls : List (Option Value)) (h : tv_H) (c z : Nat) (Q : tv_R → tv_H → Prop) (E : String) : Prop :=
  ∀ (p : Program) (l : Launch) (e : Env) (R : Room) (s : State) (m : MethodId) (args : Array Value) (below : List Frame) (meth : Method) (cd : Code) (H : Heap) (locs : List Loc) (cells slots mc ms : Nat) (D : va_G) (ct : Nat → ClassId) (A : Nat → Prop) (as0 : List Nat) (ws : va_W) (lsm : Array Slot) (stm : List Value) (q : Addr) (ce : Cell),
    tv_I G k ls h c z p l R s m args meth cd H locs cells slots mc ms D ct A as0 ws lsm → H[q]? = some ce → ce.vm = .none → s.vm.findClass E = some ce.cls →
    vx_W p l e R s m args below meth cd H locs cells slots (vx_MQ below (tv_Qc D ct A as0 Q) (tv_XC D ct A as0 Q) args s mc ms A) (F0 m pc lsm stm) q
theorem xv_out {E : String} (hh : k.2.2.2.2.1 = []) (hQ : Q (.inr E) h) : tv_Xv G k pc ls h c z Q E := by
  intro p l e R s m args below meth cd H locs cells slots mc ms D ct A as0 ws lsm stm q ce I hq hv hcl
  have b1 := I.2.2.2.2.2.2.2
  have ht := I.1.2.2.2.2.2.2.2.2.1
  rw [hh] at ht
  refine vx_out (fun x hx => by rw [ht] at hx; cases hx) I.1.2.2.2.2.2.2.2.1 hq hv hcl (fun t hth _ => ?_) I.2.2.2.2.1.2.2 (by omega) (by omega)
  exact ⟨⟨h, ws, hQ, by rw [hth]; exact I.2.2.2.1, I.2.2.2.2.2.1⟩, I.2.2.2.2.1.F hth⟩
theorem xv_catch {E : String} (name : String) (pre : List ExceptionTableEntry) (x : ExceptionTableEntry) (suf : List ExceptionTableEntry) (hsplit : tableOf k.2.2.2.2.1 = pre ++ x :: suf)
    (hpass : ∀ y ∈ pre, covers y pc = false ∨ (y.catchType ≠ 0 ∧ ∃ nm : String, Cond.classLink k.1.cls y.catchType nm ∈ tc_TB ∧ (E, nm) ∈ tv_nc)) (hx : covers x pc = true) (h0 : x.catchType ≠ 0) (hlink : Cond.classLink k.1.cls x.catchType name ∈ tc_TB) (hcast : Cond.castable E name ∈ tc_TB)
    (kk : ∀ q : Nat, tv_Ev G k x.handlerPc ls [.retAddr q] h c z Q) : tv_Xv G k pc ls h c z Q E := by
  intro p l e R s m args below meth cd H locs cells slots mc ms D ct A as0 ws lsm stm q ce I hq hv hcl
  have hts := I.1.2.2.2.2.2.2.1
  refine vx_catch (name := name) I.1.2.2.2.2.2.1 pre x suf (I.1.2.2.2.2.2.2.2.2.1.trans hsplit) (fun y hy => ?_) hx h0 (hts _ hlink) (hts _ hcast) hq hv hcl (kk q p l e R s m args below meth cd H locs cells slots mc ms D ct A as0 ws lsm _ I ⟨rfl, trivial⟩)
  rcases hpass y hy with h1 | ⟨h1, nm, h2, h3⟩
  · exact Or.inl h1
  · exact Or.inr ⟨h1, nm, hts _ h2, I.2.1.2.2.2.1 _ h3⟩
/-- throw new E("text") -/
theorem ev_throw {ik is ic : Nat} (cls text : String) (hh : k.2.2.2.2.1 = []) (hown : k.1.cls = "TreeChanges") (hcls : Bundle.fit cls = true) (w1 : Cond.classLink k.1.cls ik cls ∈ tc_TB) (w2 : Cond.initialized cls ∈ tc_TB) (hstr : (is, text) ∈ tv_strs)
    (hat : ∀ w ∈ vx_atS k.1.cls ic cls ["java/lang/RuntimeException", "java/lang/Exception"], w ∈ tc_TB) (hgood : ∀ w ∈ Cond.classLink k.1.cls ik cls :: Cond.initialized cls :: vx_atS k.1.cls ic cls ["java/lang/RuntimeException", "java/lang/Exception"], vx_ot w = true)
    (d0 : decode k.2.1 pc = .ok (.new ik, 3)) (d3 : decode k.2.1 (pc + 3) = .ok (.dup, 1)) (d4 : decode k.2.1 (pc + 4) = .ok (.ldc is, 2)) (d6 : decode k.2.1 (pc + 6) = .ok (.invokespecial ic, 3)) (d9 : decode k.2.1 (pc + 9) = .ok (.athrow, 1))
    (hfr : 6 ≤ k.2.2.2.2.2.1) (hlc : 90 ≤ k.2.2.2.2.2.2) (hst : (st.map fun v => v.category).sum ≤ 8) (hQ : Q (.inr cls) h) : tv_Ev G k pc ls st h (c + 1) (z + 6) Q := by
  intro p l e R s m args below meth cd H locs cells slots mc ms D ct A as0 ws lsm stm I hT
  have hts := I.1.2.2.2.2.2.2.1
  have b1 := I.2.2.2.2.2.2.2
  have r1 := I.1.2.2.2.2.2.2.2.2.2.2.1
  have r2 := I.1.2.2.2.2.2.2.2.2.2.2.2
  have ht := I.1.2.2.2.2.2.2.2.2.1
  rw [hh] at ht
  obtain ⟨sa, hsa⟩ := I.2.1.2.1 _ hstr
  obtain ⟨h0, lv, h1, -⟩ := id I.2.2.2.2.2.2.1
  have hS := I.2.2.2.2.1
  obtain ⟨hP, hD, hhs⟩ := id I.2.2.2.1
  refine vx_throwS (cls := cls) (text := text) (names := ["java/lang/RuntimeException", "java/lang/Exception"]) (ik := ik) (is := is) (ic := ic) (A := A) (sa := sa) I.1.2.1 I.1.2.2.1 I.1.1 I.1.2.2.2.2.2.1 hcls (by decide +kernel) (hts _ w1) (hts _ w2) (by rw [hown]; exact hsa) (fun w hw => hts _ (hat w hw)) hgood I.2.1.2.2.2.2.1 I.2.1.2.2.2.2.2.1 hS
    (h1.1.trans I.1.2.2.2.2.1.symm) d0 d3 d4 d6 d9 (fun x hx => by rw [ht] at hx; cases hx) (by show 2 + 3 < R.frames; omega) (by rw [hT.cats]; show _ + (13 * (2 + 1) + 43) ≤ R.locals; omega) (by omega) (by omega) I.1.2.2.2.2.2.2.2.1 (fun t hal hsz hk => ?_) hS.2.2 (by omega) (by omega)
  refine ⟨⟨h, ws, hQ, ⟨va_P.kept hP (fun j q hq => hk _ (vx_lt hP hq)), hD, hhs⟩, I.2.2.2.2.2.1⟩, Nat.le_trans hS.1 hsz, fun q hq hA => ?_⟩
  rw [hk q (Nat.lt_of_lt_of_le hq hS.1)]
  exact hS.2.1 q hq hA
/-- what a call needs of the callee -/
def tv_lk (k k' : tv_M) (n : Nat) : Prop := tv_hw k' ∈ tc_TB ∧ Cond.initialized k'.1.cls ∈ tc_TB ∧ (k'.1.cls ≠ "java/lang/invoke/MethodHandle" ∧ k'.1.cls ≠ "java/lang/invoke/VarHandle") ∧ (parseMethodDescriptor k'.1.desc).map (fun d => d.parameters.length) = some n ∧ k'.2.2.2.2.2.1 + 1 ≤ k.2.2.2.2.2.1 ∧ 8 + (k'.2.2.1 + 11) + k'.2.2.2.2.2.2 ≤ k.2.2.2.2.2.2
def tv_lkV (k k' : tv_M) (idx n : Nat) : Prop := k'.2.2.2.2.1 = [] ∧ tv_lk k k' n ∧ Cond.methodLink k.1.cls idx k'.1 ∈ tc_TB ∧ Cond.instanceMethod k'.1 ∈ tc_TB ∧ Cond.selects k'.1.cls k'.1 k'.1 ∈ tc_TB
def tv_lkS (k k' : tv_M) (idx n : Nat) : Prop := k'.2.2.2.2.1 = [] ∧ tv_lk k k' n ∧ Cond.methodLink k.1.cls idx k'.1 ∈ tc_TB ∧ Cond.static k'.1 ∈ tc_TB
def tv_lkX (k k' : tv_M) (idx n : Nat) : Prop := k'.2.2.2.2.1 ≠ [] ∧ tv_lk k k' n ∧ Cond.methodLink k.1.cls idx k'.1 ∈ tc_TB ∧ Cond.static k'.1 ∈ tc_TB
def tv_lkN (k k' : tv_M) (idx n : Nat) : Prop := k'.2.2.2.2.1 = [] ∧ tv_lk k k' n ∧ (∃ host, Cond.methodLinkNest k.1.cls idx k'.1 host ∈ tc_TB) ∧ Cond.static k'.1 ∈ tc_TB
def tv_lkI (k k' : tv_M) (idx n : Nat) : Prop := k'.2.2.2.2.1 = [] ∧ tv_lk k k' n ∧ (Cond.methodLink k.1.cls idx k'.1 ∈ tc_TB ∨ ∃ host, Cond.methodLinkNest k.1.cls idx k'.1 host ∈ tc_TB) ∧ Cond.instanceMethod k'.1 ∈ tc_TB ∧ k'.1.name = "<init>" ∧ k'.2.2.2.1 = none
theorem tv_hw0 {k : tv_M} (hh : k.2.2.2.2.1 = []) : tv_hw k = .code k.1 k.2.1 k.2.2.1 k.2.2.2.1 := by
  unfold tv_hw
  rw [hh]
theorem tv_hw1 {k : tv_M} (hh : k.2.2.2.2.1 ≠ []) : tv_hw k = .codeWith k.1 k.2.1 k.2.2.1 k.2.2.2.1 k.2.2.2.2.1 := by
  unfold tv_hw
  split
  · exact absurd (by assumption) hh
  · rfl
theorem tv_tb {args : Array Value} {s : State} {k' : tv_M} (hts : ∀ w ∈ tc_TB, w.before args s = true) (h : tv_hw k' ∈ tc_TB) : ∀ w ∈ tv_hw k' :: tc_TB, ∀ (a' : Array Value) (U : State), s.WarmedH U.vm → w.before a' U = true := by
  intro w hw a' U hW
  have hm : w ∈ tc_TB := by
    rcases List.mem_cons.mp hw with rfl | h1
    · exact h
    · exact h1
  exact tc_wk_at hW (List.mem_filter.mp hm).2 (hts w hm)
theorem tv_pn {y : MethodName} {n : Nat} (h : (parseMethodDescriptor y.desc).map (fun d => d.parameters.length) = some n) : ∀ sig, parseMethodDescriptor y.desc = some sig → n = sig.parameters.length := by
  intro sig hs
  rw [hs] at h
  exact (Option.some.inj h).symm
theorem tv_AA {D : va_G} {ct : Nat → ClassId} {A : Nat → Prop} {ws : va_W} {H H0 : Heap} {locs : List Loc} (hW : tv_W D ct A h ws H) (hS : va_S A H0 H locs) (hA : ∀ q, H0.size ≤ q → A q) : ∀ q, va_A ws H.size q → A q := by
  intro q hq
  rcases hq with ⟨j, x, hj⟩ | hq
  · exact hW.2.1.2 j _ hj
  · exact hA q (Nat.le_trans hS.1 hq)
/-- the callee's start -/
theorem tv_pre {p : Program} {l : Launch} {R : Room} {s : State} {m : MethodId} {args : Array Value} {meth : Method} {cd : Code} {H : Heap} {locs : List Loc} {cells slots mc ms : Nat} {D : va_G} {ct : Nat → ClassId} {A : Nat → Prop} {as0 : List Nat} {ws : va_W} {lsm : Array Slot} {vm : List Value}
    (I : tv_I G k ls h c z p l R s m args meth cd H locs cells slots mc ms D ct A as0 ws lsm) :
    FrameBlind (va_Pc vm (fun U => U.heap.size = H.size ∧ tv_W D ct (fun _ => True) h ws U.heap ∧ tv_S G D ct (va_A ws H.size) U)) ∧ ∀ U : State, U.heap = H → s.WarmedH U.vm → va_Pc vm (fun U => U.heap.size = H.size ∧ tv_W D ct (fun _ => True) h ws U.heap ∧ tv_S G D ct (va_A ws H.size) U) vm.toArray U := by
  refine ⟨fun a U g mk q => ⟨q.1, q.2.1, q.2.2.1, q.2.2.2.calling⟩, fun U hU hW => ⟨rfl, by rw [hU], ?_, I.2.1.call I.2.2.2.2.1 hU hW (tv_AA I.2.2.2.1 I.2.2.2.2.1 I.2.2.1)⟩⟩
  rw [hU]
  exact ⟨I.2.2.2.1.1, I.2.2.2.1.2.1.weaken (fun _ _ _ _ => trivial), I.2.2.2.1.2.2⟩
/-- behind a call -/
theorem tv_run {p : Program} {l : Launch} {e : Env} {R : Room} {s : State} {m : MethodId} {args : Array Value} {below : List Frame} {meth : Method} {cd : Code} {H : Heap} {locs : List Loc} {cells slots mc ms mc' ms' : Nat} {D : va_G} {ct : Nat → ClassId} {A : Nat → Prop} {as0 : List Nat} {ws : va_W} {lsm : Array Slot} {stm rest : List Value} {a : Array Value} {Q' : tv_R → tv_H → Prop}
    (hr : vx_Run p l e R s m args below meth cd H locs cells slots mc' ms' (F0 m pc lsm stm) rest (tv_Qc D ct (va_A ws H.size) (ws.map Prod.fst) Q' a) (tv_XC D ct (va_A ws H.size) (ws.map Prod.fst) Q') (va_A ws H.size))
    (I : tv_I G k ls h (c + mc') (z + ms') p l R s m args meth cd H locs cells slots mc ms D ct A as0 ws lsm) (hT : tv_vs (ws.map Prod.fst) st rest)
    (kk : ∀ v h', Q' (.inl v) h' → tv_Ev G k (pc + 3) ls (v.toList ++ st) h' c z Q) (kx : ∀ E h', Q' (.inr E) h' → tv_Xv G k pc ls h' c z Q E) :
    W p l e R s m args below meth cd H locs cells slots (vx_MQ below (tv_Qc D ct A as0 Q) (tv_XC D ct A as0 Q) args s mc ms A) (F0 m pc lsm stm) := by
  have hAA := tv_AA I.2.2.2.1 I.2.2.2.2.1 I.2.2.1
  obtain ⟨i1, i2, i3, i4, i5, i6, i7, i8, i9, i10⟩ := I
  intro T hTH X
  rcases hr T hTH X with ⟨v, st₀, t, T', L, h0, X', hL, e1, e2, ⟨⟨v', w', h', ws', q1, q2, q3, q4, q5⟩, hF⟩, sg⟩ | ⟨q, st₀, t, T', L, E, ce, h0, X', hL, e1, e2, ⟨⟨h', ws', q3, q4, q5⟩, hF⟩, hce, hcv, hcl, sg⟩
  · cases q1
    obtain ⟨k1, k2, k3⟩ := vx_keep h0 e1 i5 (fun q _ hq => hAA q hq) hAA hL hF
    have I' : tv_I G k ls h' c z p l R s m args meth cd T'.heap (locs ++ L) (cells + mc') (slots + ms') mc ms D ct A as0 ws' lsm :=
      ⟨i1, i2, i3, by rw [e1]; exact ⟨q4.1, q4.2.1.weaken (fun _ _ _ hq => hAA _ hq), q4.2.2⟩, k3, i6.trans q5, i7.mono q5, by omega, by omega, i10⟩
    have hst : tv_vs (ws'.map Prod.fst) (v'.toList ++ st) (v.toList ++ rest) := by
      refine tv_vs.app ?_ (hT.mono q5)
      cases v' with
      | none =>
        cases v with
        | none => trivial
        | some w => exact q2.elim
      | some u =>
        cases v with
        | none => exact q2.elim
        | some w => exact ⟨q2, trivial⟩
    obtain ⟨t2, a1, b1⟩ := kk v' h' q3 p l e R s m args below meth cd T'.heap (locs ++ L) (cells + mc') (slots + ms') mc ms D ct A as0 ws' lsm _ I' hst T' rfl X'
    exact ⟨t2, sg t2 a1, b1⟩
  · obtain ⟨k1, k2, k3⟩ := vx_keep h0 e1 i5 (fun q _ hq => hAA q hq) hAA hL hF
    have I' : tv_I G k ls h' c z p l R s m args meth cd T'.heap (locs ++ L) (cells + mc') (slots + ms') mc ms D ct A as0 ws' lsm :=
      ⟨i1, i2, i3, by rw [e1]; exact ⟨q4.1, q4.2.1.weaken (fun _ _ _ hq => hAA _ hq), q4.2.2⟩, k3, i6.trans q5, i7.mono q5, by omega, by omega, i10⟩
    obtain ⟨t2, a1, b1⟩ := kx E h' q3 p l e R s m args below meth cd T'.heap (locs ++ L) (cells + mc') (slots + ms') mc ms D ct A as0 ws' lsm rest q ce I' (by rw [e1]; exact hce) hcv hcl T' rfl X'
    exact ⟨t2, sg.trans a1, b1⟩
theorem ev_invokevirtual {idx n a ci mc' ms' : Nat} {T : u_T} {N : Nat} {fs vs : List Value} {Q' : tv_R → tv_H → Prop} (k' : tv_M) (hd : decode k.2.1 pc = .ok (.invokevirtual idx, 3)) (hl : tv_lkV k k' idx n) (hn : vs.length = n) (hobj : h[a]? = some (ci, fs)) (hcl : tc_cl[ci]? = some (k'.1.cls, T, N)) (hst : (st.map fun v => v.category).sum ≤ 8)
    (hct : tv_Ct G k' (.ref a :: vs) h mc' ms' Q') (kk : ∀ v h', Q' (.inl v) h' → tv_Ev G k (pc + 3) ls (v.toList ++ st) h' c z Q) (kx : ∀ E h', Q' (.inr E) h' → tv_Xv G k pc ls h' c z Q E) : tv_Ev G k pc ls (vs.reverse ++ .ref a :: st) h (c + mc') (z + ms') Q := by
  intro p l e R s m args below meth cd H locs cells slots mc ms D ct A as0 ws lsm stm I hT
  obtain ⟨b0, e0, rfl, hb0, he0⟩ := hT.split
  obtain ⟨w, rest, rfl, ⟨qa, hqa, rfl⟩, hrest⟩ := he0.cons
  obtain ⟨hh, ⟨l1, l2, l3, l4, l5, l6⟩, l7, l8, l9⟩ := hl
  have hts := I.1.2.2.2.2.2.2.1
  have b1 := I.2.2.2.2.2.2.2
  have r1 := I.1.2.2.2.2.2.2.2.2.2.2.1
  have r2 := I.1.2.2.2.2.2.2.2.2.2.2.2
  have hvm : tv_vs (ws.map Prod.fst) (.ref a :: vs) (.ref qa :: b0.reverse) := ⟨⟨qa, hqa, rfl⟩, by have h2 := hb0.rev; rwa [List.reverse_reverse] at h2⟩
  obtain ⟨x, hx, he⟩ := I.2.2.2.1.at hobj hqa
  obtain ⟨hci, -⟩ := tc_all ci _ T N hcl
  obtain ⟨gs, rfl, -⟩ := he.obj hci
  obtain ⟨h0, lv, h1, -⟩ := id I.2.2.2.2.2.2.1
  have hp := tv_pre (vm := .ref qa :: b0.reverse) I
  have hcode : Cond.code k'.1 k'.2.1 k'.2.2.1 k'.2.2.2.1 ∈ tc_TB := tv_hw0 hh ▸ l1
  refine tv_run (vx_runV (C := k'.1.cls) (b := qa) (As := b0.reverse) (rest := rest) (bytes := k'.2.1) (maxL := k'.2.2.1) (ret := k'.2.2.2.1) ⟨I.1.2.1, I.1.2.2.1, I.1.2.2.2.2.1, I.1.2.2.2.2.2.1, hts⟩ (hct l I.1.1 D ct ws (.ref qa :: b0.reverse) H.size hvm)
    ⟨⟨rfl, rfl, by show k'.2.2.2.2.2.1 + 1 ≤ _; omega, by show _ + k'.2.2.2.2.2.2 ≤ _; omega, tv_tb hts l1, by rw [tv_hw0 hh]; exact List.mem_cons_self, hts _ hcode, hts _ l2, l3, tv_pn l4, hts _ l7⟩, hts _ l8, hts _ l9⟩
    ⟨hp.1, va_recv I.2.1.1 I.2.2.2.1.1 hcl hx, hp.2⟩ rfl (by rw [List.length_reverse, ← hb0.len, List.length_reverse]; exact hn) h1.1 (by rw [List.reverse_reverse]) (lv_room (by rw [hrest.cats]; exact hst)) hd ⟨by omega, by omega⟩) I hrest kk kx
theorem ev_invokestatic {idx n mc' ms' : Nat} {vs : List Value} {Q' : tv_R → tv_H → Prop} (k' : tv_M) (hd : decode k.2.1 pc = .ok (.invokestatic idx, 3)) (hl : tv_lkS k k' idx n) (hn : vs.length = n) (hst : (st.map fun v => v.category).sum ≤ 8)
    (hct : tv_Ct G k' vs h mc' ms' Q') (kk : ∀ v h', Q' (.inl v) h' → tv_Ev G k (pc + 3) ls (v.toList ++ st) h' c z Q) (kx : ∀ E h', Q' (.inr E) h' → tv_Xv G k pc ls h' c z Q E) : tv_Ev G k pc ls (vs.reverse ++ st) h (c + mc') (z + ms') Q := by
  intro p l e R s m args below meth cd H locs cells slots mc ms D ct A as0 ws lsm stm I hT
  obtain ⟨b0, rest, rfl, hb0, hrest⟩ := hT.split
  obtain ⟨hh, ⟨l1, l2, l3, l4, l5, l6⟩, l7, l8⟩ := hl
  have hts := I.1.2.2.2.2.2.2.1
  have b1 := I.2.2.2.2.2.2.2
  have r1 := I.1.2.2.2.2.2.2.2.2.2.2.1
  have r2 := I.1.2.2.2.2.2.2.2.2.2.2.2
  have hvm : tv_vs (ws.map Prod.fst) vs b0.reverse := by have h2 := hb0.rev; rwa [List.reverse_reverse] at h2
  obtain ⟨h0, lv, h1, -⟩ := id I.2.2.2.2.2.2.1
  have hp := tv_pre (vm := b0.reverse) I
  have hcode : Cond.code k'.1 k'.2.1 k'.2.2.1 k'.2.2.2.1 ∈ tc_TB := tv_hw0 hh ▸ l1
  refine tv_run (vx_runS (As := b0.reverse) (rest := rest) (bytes := k'.2.1) (maxL := k'.2.2.1) (ret := k'.2.2.2.1) ⟨I.1.2.1, I.1.2.2.1, I.1.2.2.2.2.1, I.1.2.2.2.2.2.1, hts⟩ (hct l I.1.1 D ct ws b0.reverse H.size hvm)
    ⟨⟨rfl, rfl, by show k'.2.2.2.2.2.1 + 1 ≤ _; omega, by show _ + k'.2.2.2.2.2.2 ≤ _; omega, tv_tb hts l1, by rw [tv_hw0 hh]; exact List.mem_cons_self, hts _ hcode, hts _ l2, l3, tv_pn l4, hts _ l7⟩, hts _ l8⟩
    hp rfl (by rw [List.length_reverse, ← hb0.len, List.length_reverse]; exact hn) h1.1 (by rw [List.reverse_reverse]) (lv_room (by rw [hrest.cats]; exact hst)) hd ⟨by omega, by omega⟩) I hrest kk kx
theorem ev_invokestaticX {idx n mc' ms' : Nat} {vs : List Value} {Q' : tv_R → tv_H → Prop} (k' : tv_M) (hd : decode k.2.1 pc = .ok (.invokestatic idx, 3)) (hl : tv_lkX k k' idx n) (hn : vs.length = n) (hst : (st.map fun v => v.category).sum ≤ 8)
    (hct : tv_Ct G k' vs h mc' ms' Q') (kk : ∀ v h', Q' (.inl v) h' → tv_Ev G k (pc + 3) ls (v.toList ++ st) h' c z Q) (kx : ∀ E h', Q' (.inr E) h' → tv_Xv G k pc ls h' c z Q E) : tv_Ev G k pc ls (vs.reverse ++ st) h (c + mc') (z + ms') Q := by
  intro p l e R s m args below meth cd H locs cells slots mc ms D ct A as0 ws lsm stm I hT
  obtain ⟨b0, rest, rfl, hb0, hrest⟩ := hT.split
  obtain ⟨hh, ⟨l1, l2, l3, l4, l5, l6⟩, l7, l8⟩ := hl
  have hts := I.1.2.2.2.2.2.2.1
  have b1 := I.2.2.2.2.2.2.2
  have r1 := I.1.2.2.2.2.2.2.2.2.2.2.1
  have r2 := I.1.2.2.2.2.2.2.2.2.2.2.2
  have hvm : tv_vs (ws.map Prod.fst) vs b0.reverse := by have h2 := hb0.rev; rwa [List.reverse_reverse] at h2
  obtain ⟨h0, lv, h1, -⟩ := id I.2.2.2.2.2.2.1
  have hp := tv_pre (vm := b0.reverse) I
  have hcode : Cond.codeWith k'.1 k'.2.1 k'.2.2.1 k'.2.2.2.1 k'.2.2.2.2.1 ∈ tc_TB := tv_hw1 hh ▸ l1
  refine tv_run (vx_runSX (As := b0.reverse) (rest := rest) (bytes := k'.2.1) (maxL := k'.2.2.1) (ret := k'.2.2.2.1) (hh := k'.2.2.2.2.1) ⟨I.1.2.1, I.1.2.2.1, I.1.2.2.2.2.1, I.1.2.2.2.2.2.1, hts⟩ (hct l I.1.1 D ct ws b0.reverse H.size hvm)
    ⟨⟨rfl, rfl, by show k'.2.2.2.2.2.1 + 1 ≤ _; omega, by show _ + k'.2.2.2.2.2.2 ≤ _; omega, tv_tb hts l1, by rw [tv_hw1 hh]; exact List.mem_cons_self⟩, hts _ hcode, hts _ l2, l3, tv_pn l4, hts _ l7, hts _ l8⟩
    hp rfl (by rw [List.length_reverse, ← hb0.len, List.length_reverse]; exact hn) h1.1 (by rw [List.reverse_reverse]) (lv_room (by rw [hrest.cats]; exact hst)) hd ⟨by omega, by omega⟩) I hrest kk kx
/-- a contract that lets nothing be thrown, in the kit's own form -/
theorem tv_Ct.met {k' : tv_M} {vs : List Value} {mc' ms' : Nat} {Q' : tv_R → tv_H → Prop} (hct : tv_Ct G k' vs h mc' ms' Q') (hn : ∀ E h', ¬ Q' (.inr E) h') {l : Launch} (hl : l.stackTraces = false) {D : va_G} {ct : Nat → ClassId} {ws : va_W} {vm : List Value} {sz : Nat} (hvm : tv_vs (ws.map Prod.fst) vs vm) :
    Met l k'.1 (tv_hw k' :: tc_TB) (tv_rm k' mc' ms') (va_Pc vm (fun U => U.heap.size = sz ∧ tv_W D ct (fun _ => True) h ws U.heap ∧ tv_S G D ct (va_A ws sz) U)) (tv_Qc D ct (va_A ws sz) (ws.map Prod.fst) Q') mc' ms' (va_A ws sz) := by
  intro p e ha hc hk s m args below hf happ hP hK
  obtain ⟨n, o, a1, a2, a3, hq⟩ := hct l hl D ct ws vm sz hvm p e ha hc hk s m args below hf happ hP hK
  rcases hq with hq | ⟨q, -, E, ce, L, ⟨⟨h', ws', hq, -⟩, -⟩, -⟩
  · exact ⟨n, o, a1, a2, a3, hq⟩
  · exact absurd hq (hn E h')
theorem ev_invokestaticN {idx n mc' ms' : Nat} {vs : List Value} {Q' : tv_R → tv_H → Prop} (k' : tv_M) (hd : decode k.2.1 pc = .ok (.invokestatic idx, 3)) (hl : tv_lkN k k' idx n) (hn : vs.length = n) (hst : (st.map fun v => v.category).sum ≤ 8)
    (hct : tv_Ct G k' vs h mc' ms' Q') (hx : ∀ E h', ¬ Q' (.inr E) h') (kk : ∀ v h', Q' (.inl v) h' → tv_Ev G k (pc + 3) ls (v.toList ++ st) h' c z Q) : tv_Ev G k pc ls (vs.reverse ++ st) h (c + mc') (z + ms') Q := by
  intro p l e R s m args below meth cd H locs cells slots mc ms D ct A as0 ws lsm stm I hT
  obtain ⟨b0, rest, rfl, hb0, hrest⟩ := hT.split
  obtain ⟨hh, ⟨l1, l2, l3, l4, l5, l6⟩, ⟨host, l7⟩, l8⟩ := hl
  have hts := I.1.2.2.2.2.2.2.1
  have b1 := I.2.2.2.2.2.2.2
  have r1 := I.1.2.2.2.2.2.2.2.2.2.2.1
  have r2 := I.1.2.2.2.2.2.2.2.2.2.2.2
  have hvm : tv_vs (ws.map Prod.fst) vs b0.reverse := by have h2 := hb0.rev; rwa [List.reverse_reverse] at h2
  obtain ⟨h0, lv, h1, -⟩ := id I.2.2.2.2.2.2.1
  have hp := tv_pre (vm := b0.reverse) I
  have hcode : Cond.code k'.1 k'.2.1 k'.2.2.1 k'.2.2.2.1 ∈ tc_TB := tv_hw0 hh ▸ l1
  have hr := va_runSN (host := host) (As := b0.reverse) (rest := rest) (bytes := k'.2.1) (maxL := k'.2.2.1) (ret := k'.2.2.2.1) (H := H) (locs := locs) (cells := cells) (slots := slots) (R := R) (below := below) (meth := meth) (p := p) (e := e) (g := F0 m pc lsm (b0 ++ rest)) ⟨I.1.2.1, I.1.2.2.1, I.1.2.2.2.2.1, I.1.2.2.2.2.2.1, hts⟩ (hct.met hx I.1.1 (D := D) (ct := ct) (ws := ws) (vm := b0.reverse) (sz := H.size) hvm)
    ⟨⟨⟨rfl, rfl, by show k'.2.2.2.2.2.1 + 1 ≤ _; omega, by show _ + k'.2.2.2.2.2.2 ≤ _; omega, tv_tb hts l1, by rw [tv_hw0 hh]; exact List.mem_cons_self⟩, hts _ hcode, hts _ l2, l3, tv_pn l4, hts _ l7⟩, hts _ l8, trivial⟩
    hp rfl (by rw [List.length_reverse, ← hb0.len, List.length_reverse]; exact hn) h1.1 (by rw [List.reverse_reverse]) (lv_room (by rw [hrest.cats]; exact hst)) hd ⟨by omega, by omega⟩
  exact tv_run (Q' := Q') (fun T hTH X => Or.inl (hr T hTH X)) I hrest kk (fun E h' hq => absurd hq (hx E h'))
theorem ev_invokespecial {idx n a mc' ms' : Nat} {vs : List Value} {Q' : tv_R → tv_H → Prop} (k' : tv_M) (hd : decode k.2.1 pc = .ok (.invokespecial idx, 3)) (hl : tv_lkI k k' idx n) (hn : vs.length = n) (hst : (st.map fun v => v.category).sum ≤ 8)
    (hct : tv_Ct G k' (.ref a :: vs) h mc' ms' Q') (hx : ∀ E h', ¬ Q' (.inr E) h') (kk : ∀ v h', Q' (.inl v) h' → tv_Ev G k (pc + 3) ls (v.toList ++ st) h' c z Q) : tv_Ev G k pc ls (vs.reverse ++ .ref a :: st) h (c + mc') (z + ms') Q := by
  intro p l e R s m args below meth cd H locs cells slots mc ms D ct A as0 ws lsm stm I hT
  obtain ⟨b0, e0, rfl, hb0, he0⟩ := hT.split
  obtain ⟨w, rest, rfl, ⟨qa, hqa, rfl⟩, hrest⟩ := he0.cons
  obtain ⟨hh, ⟨l1, l2, l3, l4, l5, l6⟩, l7, l8, l9, l10⟩ := hl
  have hts := I.1.2.2.2.2.2.2.1
  have b1 := I.2.2.2.2.2.2.2
  have r1 := I.1.2.2.2.2.2.2.2.2.2.2.1
  have r2 := I.1.2.2.2.2.2.2.2.2.2.2.2
  have hvm : tv_vs (ws.map Prod.fst) (.ref a :: vs) (.ref qa :: b0.reverse) := ⟨⟨qa, hqa, rfl⟩, by have h2 := hb0.rev; rwa [List.reverse_reverse] at h2⟩
  obtain ⟨h0, lv, h1, -⟩ := id I.2.2.2.2.2.2.1
  have hp := tv_pre (vm := .ref qa :: b0.reverse) I
  have hcode : Cond.code k'.1 k'.2.1 k'.2.2.1 none ∈ tc_TB := by
    have h2 := l1
    rw [tv_hw0 hh, l10] at h2
    exact h2
  have hcode2 : Cond.code k'.1 k'.2.1 k'.2.2.1 none ∈ tv_hw k' :: tc_TB := List.mem_cons_of_mem _ hcode
  have hM := hct.met hx I.1.1 (D := D) (ct := ct) (ws := ws) (vm := .ref qa :: b0.reverse) (sz := H.size) hvm
  rcases l7 with l7 | ⟨host, l7⟩
  · have hr := va_runI (b := qa) (As := b0.reverse) (rest := rest) (bytes := k'.2.1) (maxL := k'.2.2.1) (H := H) (locs := locs) (cells := cells) (slots := slots) (R := R) (below := below) (meth := meth) (p := p) (e := e) (g := F0 m pc lsm (b0 ++ .ref qa :: rest)) ⟨I.1.2.1, I.1.2.2.1, I.1.2.2.2.2.1, I.1.2.2.2.2.2.1, hts⟩ hM
      ⟨⟨rfl, rfl, by show k'.2.2.2.2.2.1 + 1 ≤ _; omega, by show _ + k'.2.2.2.2.2.2 ≤ _; omega, tv_tb hts l1, hcode2, hts _ hcode, hts _ l2, l3, tv_pn l4, hts _ l7⟩, l9, hts _ l8⟩
      hp rfl (by rw [List.length_reverse, ← hb0.len, List.length_reverse]; exact hn) h1.1 (by rw [List.reverse_reverse]) (lv_room (by rw [hrest.cats]; exact hst)) hd ⟨by omega, by omega⟩
    exact tv_run (Q' := Q') (fun T hTH X => Or.inl (hr T hTH X)) I hrest kk (fun E h' hq => absurd hq (hx E h'))
  · have hr := va_runIN (host := host) (b := qa) (As := b0.reverse) (rest := rest) (bytes := k'.2.1) (maxL := k'.2.2.1) (H := H) (locs := locs) (cells := cells) (slots := slots) (R := R) (below := below) (meth := meth) (p := p) (e := e) (g := F0 m pc lsm (b0 ++ .ref qa :: rest)) ⟨I.1.2.1, I.1.2.2.1, I.1.2.2.2.2.1, I.1.2.2.2.2.2.1, hts⟩ hM
      ⟨⟨⟨rfl, rfl, by show k'.2.2.2.2.2.1 + 1 ≤ _; omega, by show _ + k'.2.2.2.2.2.2 ≤ _; omega, tv_tb hts l1, hcode2⟩, hts _ hcode, hts _ l2, l3, tv_pn l4, hts _ l7⟩, l9, hts _ l8⟩
      hp rfl (by rw [List.length_reverse, ← hb0.len, List.length_reverse]; exact hn) h1.1 (by rw [List.reverse_reverse]) (lv_room (by rw [hrest.cats]; exact hst)) hd ⟨by omega, by omega⟩
    exact tv_run (Q' := Q') (fun T hTH X => Or.inl (hr T hTH X)) I hrest kk (fun E h' hq => absurd hq (hx E h'))
/-- Object() -/
theorem ev_objinit {idx a : Nat} (hd : decode k.2.1 pc = .ok (.invokespecial idx, 3)) (w1 : Cond.methodLink k.1.cls idx objectInit ∈ tc_TB) (w2 : Cond.instanceMethod objectInit ∈ tc_TB) (w3 : Cond.code objectInit ⟨#[0xb1]⟩ 1 none ∈ tc_TB) (hfr : 1 ≤ k.2.2.2.2.2.1) (hlc : (st.map fun v => v.category).sum + 12 ≤ k.2.2.2.2.2.2)
    (kk : tv_Ev G k (pc + 3) ls st h c z Q) : tv_Ev G k pc ls (.ref a :: st) h c z Q := by
  intro p l e R s m args below meth cd H locs cells slots mc ms D ct A as0 ws lsm stm I hT
  obtain ⟨w, rest, rfl, ⟨qa, hqa, rfl⟩, hrest⟩ := hT.cons
  have hts := I.1.2.2.2.2.2.2.1
  have r1 := I.1.2.2.2.2.2.2.2.2.2.2.1
  have r2 := I.1.2.2.2.2.2.2.2.2.2.2.2
  obtain ⟨h0, lv, h1, -⟩ := id I.2.2.2.2.2.2.1
  exact W.objInit I.1.2.1 I.1.2.2.1 I.1.2.2.2.2.2.1 (hts _ w1) (hts _ w2) (hts _ w3) rfl (h1.1.trans I.1.2.2.2.2.1.symm) rfl hd (by omega) (by show 2 * 0 + _ + 12 ≤ _; rw [hrest.cats]; omega) (kk p l e R s m args below meth cd H locs cells slots mc ms D ct A as0 ws lsm _ I hrest)
end
