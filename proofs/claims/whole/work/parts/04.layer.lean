/-! THE LAYER. A virtual heap is a list of entries (tag, contents); an object is named by its place. tag: the number of its kind in tc_cl, or 100 byte[], 101 int[], 102 long[], 103 Entry[]. A value '.retAddr q' stands for the machine's own cell q (the script, an exception). -/
abbrev tv_E : Type := Nat × List Value
abbrev tv_H : Type := List tv_E
/-- the script: its cell, its length, its ints -/
abbrev tv_G : Type := Nat × Nat × (Nat → Int32)
/-- a method: name, bytes, locals, what it returns, its table of handlers, frames, words -/
abbrev tv_M : Type := MethodName × ByteArray × Nat × Option FieldType × List (Nat × Nat × Nat × Nat) × Nat × Nat
abbrev tv_R : Type := Option Value ⊕ String
def tv_v (as : List Nat) (v w : Value) : Prop := match v with
  | .ref a => ∃ q, as[a]? = some q ∧ w = .ref q
  | .retAddr q => w = .ref q
  | x => w = x
def tv_vs (as : List Nat) : List Value → List Value → Prop
  | [], [] => True
  | v :: vs, w :: ws => tv_v as v w ∧ tv_vs as vs ws
  | _, _ => False
def tv_e (as : List Nat) (ct : Nat → ClassId) (e : tv_E) (x : va_E) : Prop := match x with
  | .inr o => e.1 = o.1 ∧ o.1 < 100 ∧ tv_vs as e.2 o.2
  | .inl (cA, n, .inl f) => ∃ t, e.1 = 100 + t ∧ t < 2 ∧ cA = ct t ∧ n = e.2.length ∧ ∀ i, i < n → e.2[i]? = some (.int (f i))
  | .inl (cA, n, .inr (.inl f)) => e.1 = 102 ∧ cA = ct 2 ∧ n = e.2.length ∧ ∀ i, i < n → e.2[i]? = some (.long (f i))
  | .inl (cA, n, .inr (.inr (.inr (.inr g)))) => e.1 = 103 ∧ cA = ct 3 ∧ n = e.2.length ∧ ∀ i, i < n → ∃ v, e.2[i]? = some v ∧ tv_v as v (va_rf (g i))
  | _ => False
def tv_hs (as : List Nat) (ct : Nat → ClassId) : tv_H → va_W → Prop
  | [], [] => True
  | e :: h, x :: ws => tv_e as ct e x.2 ∧ tv_hs as ct h ws
  | _, _ => False
theorem tv_v.mono {as bs : List Nat} (h : as <+: bs) {v w : Value} (hv : tv_v as v w) : tv_v bs v w := by
  cases v with
  | ref a =>
    obtain ⟨q, h1, h2⟩ := hv
    obtain ⟨t, rfl⟩ := h
    exact ⟨q, by rw [List.getElem?_append_left (List.getElem?_eq_some_iff.mp h1).1]; exact h1, h2⟩
  | _ => exact hv
theorem tv_vs.mono {as bs : List Nat} (h : as <+: bs) : ∀ {vs ws : List Value}, tv_vs as vs ws → tv_vs bs vs ws
  | [], [], _ => trivial
  | _ :: _, _ :: _, hv => ⟨hv.1.mono h, tv_vs.mono h hv.2⟩
theorem tv_e.mono {as bs : List Nat} (h : as <+: bs) {ct : Nat → ClassId} {e : tv_E} {x : va_E} (he : tv_e as ct e x) : tv_e bs ct e x := by
  rcases x with ⟨cA, n, f | f | f | f | g⟩ | o
  · exact he
  · exact he
  · exact he
  · exact he
  · obtain ⟨h1, h2, h3, h4⟩ := he
    exact ⟨h1, h2, h3, fun i hi => by obtain ⟨v, e1, e2⟩ := h4 i hi; exact ⟨v, e1, e2.mono h⟩⟩
  · exact ⟨he.1, he.2.1, he.2.2.mono h⟩
theorem tv_hs.mono {as bs : List Nat} (h : as <+: bs) {ct : Nat → ClassId} : ∀ {hh : tv_H} {ws : va_W}, tv_hs as ct hh ws → tv_hs bs ct hh ws
  | [], [], _ => trivial
  | _ :: _, _ :: _, hv => ⟨hv.1.mono h, tv_hs.mono h hv.2⟩
theorem tv_vs.cons {as : List Nat} {v : Value} {vs ws : List Value} (h : tv_vs as (v :: vs) ws) : ∃ w ws', ws = w :: ws' ∧ tv_v as v w ∧ tv_vs as vs ws' := by
  cases ws with
  | nil => exact h.elim
  | cons w ws' => exact ⟨w, ws', rfl, h.1, h.2⟩
theorem tv_vs.nil {as : List Nat} {ws : List Value} (h : tv_vs as [] ws) : ws = [] := by
  cases ws with
  | nil => rfl
  | cons w ws' => exact h.elim
theorem tv_vs.len {as : List Nat} : ∀ {vs ws : List Value}, tv_vs as vs ws → vs.length = ws.length
  | [], [], _ => rfl
  | _ :: _, _ :: _, h => by rw [List.length_cons, List.length_cons, tv_vs.len h.2]
theorem tv_vs.get {as : List Nat} : ∀ {vs ws : List Value} {i : Nat} {v : Value}, tv_vs as vs ws → vs[i]? = some v → ∃ w, ws[i]? = some w ∧ tv_v as v w
  | [], [], i, v, _, hi => by simp at hi
  | a :: _, b :: _, 0, v, h, hi => by
    simp at hi
    subst hi
    exact ⟨b, rfl, h.1⟩
  | _ :: _, _ :: _, i + 1, v, h, hi => by
    rw [List.getElem?_cons_succ] at hi
    obtain ⟨w, h1, h2⟩ := tv_vs.get h.2 hi
    exact ⟨w, by rw [List.getElem?_cons_succ]; exact h1, h2⟩
theorem tv_vs.set {as : List Nat} {v w : Value} (hv : tv_v as v w) : ∀ {vs ws : List Value} {i : Nat}, tv_vs as vs ws → tv_vs as (vs.set i v) (ws.set i w)
  | [], [], i, _ => by simp [tv_vs]
  | _ :: _, _ :: _, 0, h => ⟨hv, h.2⟩
  | _ :: _, _ :: _, i + 1, h => ⟨h.1, tv_vs.set hv h.2⟩
theorem tv_vs.app {as : List Nat} : ∀ {a b c d : List Value}, tv_vs as a b → tv_vs as c d → tv_vs as (a ++ c) (b ++ d)
  | [], [], _, _, _, h => h
  | _ :: _, _ :: _, _, _, h1, h2 => ⟨h1.1, tv_vs.app h1.2 h2⟩
theorem tv_vs.rev {as : List Nat} : ∀ {a b : List Value}, tv_vs as a b → tv_vs as a.reverse b.reverse
  | [], [], h => h
  | _ :: _, _ :: _, h => by
    rw [List.reverse_cons, List.reverse_cons]
    exact (tv_vs.rev h.2).app ⟨h.1, trivial⟩
/-- a stack that begins with some arguments -/
theorem tv_vs.split {as : List Nat} : ∀ {a c d : List Value}, tv_vs as (a ++ c) d → ∃ b e, d = b ++ e ∧ tv_vs as a b ∧ tv_vs as c e
  | [], c, d, h => ⟨[], d, rfl, trivial, h⟩
  | _ :: _, c, [], h => h.elim
  | v :: a, c, w :: d, h => by
    obtain ⟨b, e, h1, h2, h3⟩ := tv_vs.split (a := a) h.2
    exact ⟨w :: b, e, by rw [h1]; rfl, ⟨h.1, h2⟩, h3⟩
theorem tv_v.cat {as : List Nat} {v w : Value} (h : tv_v as v w) : w.category = v.category := by
  cases v with
  | ref a => obtain ⟨q, -, rfl⟩ := h; rfl
  | retAddr q => have h : w = .ref q := h; subst h; rfl
  | int x => have h : w = .int x := h; subst h; rfl
  | long x => have h : w = .long x := h; subst h; rfl
  | float x => have h : w = .float x := h; subst h; rfl
  | double x => have h : w = .double x := h; subst h; rfl
  | null => have h : w = .null := h; subst h; rfl
theorem tv_vs.cats {as : List Nat} : ∀ {vs ws : List Value}, tv_vs as vs ws → (ws.map fun v => v.category).sum = (vs.map fun v => v.category).sum
  | [], [], _ => rfl
  | _ :: _, _ :: _, h => by rw [List.map_cons, List.map_cons, List.sum_cons, List.sum_cons, h.1.cat, tv_vs.cats h.2]
theorem tv_hs.len {as : List Nat} {ct : Nat → ClassId} : ∀ {h : tv_H} {ws : va_W}, tv_hs as ct h ws → h.length = ws.length
  | [], [], _ => rfl
  | _ :: _, _ :: _, h => by rw [List.length_cons, List.length_cons, tv_hs.len h.2]
theorem tv_hs.get {as : List Nat} {ct : Nat → ClassId} : ∀ {h : tv_H} {ws : va_W} {a : Nat} {e : tv_E}, tv_hs as ct h ws → h[a]? = some e → ∃ q x, ws[a]? = some (q, x) ∧ tv_e as ct e x
  | [], [], a, e, _, hi => by simp at hi
  | e0 :: _, b :: _, 0, e, h, hi => by
    simp at hi
    subst hi
    exact ⟨b.1, b.2, rfl, h.1⟩
  | _ :: _, _ :: _, i + 1, v, h, hi => by
    rw [List.getElem?_cons_succ] at hi
    obtain ⟨q, x, h1, h2⟩ := tv_hs.get h.2 hi
    exact ⟨q, x, by rw [List.getElem?_cons_succ]; exact h1, h2⟩
theorem tv_hs.set {as : List Nat} {ct : Nat → ClassId} {e : tv_E} {q : Nat} {x : va_E} (he : tv_e as ct e x) : ∀ {h : tv_H} {ws : va_W} {i : Nat}, tv_hs as ct h ws → tv_hs as ct (h.set i e) (ws.set i (q, x))
  | [], [], i, _ => by simp [tv_hs]
  | _ :: _, _ :: _, 0, h => ⟨he, h.2⟩
  | _ :: _, _ :: _, i + 1, h => ⟨h.1, tv_hs.set he h.2⟩
theorem tv_hs.push {as : List Nat} {ct : Nat → ClassId} {e : tv_E} {q : Nat} {x : va_E} (he : tv_e as ct e x) : ∀ {h : tv_H} {ws : va_W}, tv_hs as ct h ws → tv_hs as ct (h ++ [e]) (ws ++ [(q, x)])
  | [], [], _ => ⟨he, trivial⟩
  | _ :: _, _ :: _, h => ⟨h.1, tv_hs.push he h.2⟩
theorem tv_fst_set {ws : va_W} {i q : Nat} {x y : va_E} (h : ws[i]? = some (q, x)) : (ws.set i (q, y)).map Prod.fst = ws.map Prod.fst := by
  apply List.ext_getElem?
  intro j
  rw [List.getElem?_map, List.getElem?_map, List.getElem?_set]
  by_cases hj : i = j
  · subst hj
    have hl := (List.getElem?_eq_some_iff.mp h).1
    rw [if_pos rfl, if_pos hl, h]
    rfl
  · rw [if_neg hj]
/-- the world: the cells, and what they are -/
def tv_W (D : va_G) (ct : Nat → ClassId) (A : Nat → Prop) (h : tv_H) (ws : va_W) (H : Heap) : Prop := va_P D tc_cl ws H ∧ va_D A ws ∧ tv_hs (ws.map Prod.fst) ct h ws
def tv_ty (ct : Nat → ClassId) : List (ClassId × FieldType) := [(ct 0, .byte), (ct 1, .int), (ct 2, .long), (ct 3, .object "TreeChanges$Entry")]
def tv_strs : List (Nat × String) := [(184, "no such tree"), (68, "no path, it is in the tree, or nothing to hold it"), (78, "the tree is full"), (89, "no path, or nothing to hold it"), (91, "it is a directory"), (108, "no path, or it is no file"), (117, "the file would have too many bytes"), (119, "no path, or nothing there"), (127, "the signs are no path"), (134, "it can't come to the other path"), (153, "the layer has no such byte"), (169, "the layer can't be applied"), (178, "no such what"), (180, "no such entry")]
def tv_nc : List (String × String) := [("java/lang/IllegalArgumentException", "java/lang/IllegalStateException"), ("java/lang/IllegalArgumentException", "java/lang/UnsupportedOperationException"), ("java/lang/IllegalArgumentException", "java/lang/IndexOutOfBoundsException"), ("java/lang/IllegalStateException", "java/lang/IllegalArgumentException"), ("java/lang/IllegalStateException", "java/lang/UnsupportedOperationException"), ("java/lang/IllegalStateException", "java/lang/IndexOutOfBoundsException"), ("java/lang/UnsupportedOperationException", "java/lang/IllegalArgumentException"), ("java/lang/UnsupportedOperationException", "java/lang/IllegalStateException"), ("java/lang/UnsupportedOperationException", "java/lang/IndexOutOfBoundsException"), ("java/lang/IndexOutOfBoundsException", "java/lang/IllegalArgumentException"), ("java/lang/IndexOutOfBoundsException", "java/lang/IllegalStateException"), ("java/lang/IndexOutOfBoundsException", "java/lang/UnsupportedOperationException")]
/-- what a state says at a method's entry -/
def tv_S (G : tv_G) (D : va_G) (ct : Nat → ClassId) (A : Nat → Prop) (s : State) : Prop :=
  va_K D tc_cl (tv_ty ct) s ∧ (∀ q ∈ tv_strs, ∃ a, vk_R "TreeChanges" q.1 q.2 a s) ∧ va_AO "TreeChanges$Entry" s ∧ (∀ q ∈ tv_nc, va_Nc q.1 q.2 s) ∧
  vx_Zq Bundle.tN "UNASSIGNED_STACK" Bundle.steD A s s.heap ∧ vx_Zq Bundle.tN "SUPPRESSED_SENTINEL" Bundle.listD A s s.heap ∧ va_X G.1 G.2.1 G.2.2 s s.heap ∧ G.1 < s.heap.size ∧ ¬ A G.1
theorem tv_S.call {G : tv_G} {D : va_G} {ct : Nat → ClassId} {A B : Nat → Prop} {s U : State} {H : Heap} {locs : List Loc} (h : tv_S G D ct A s) (hS : va_S A s.heap H locs) (hU : U.heap = H) (hW : s.WarmedH U.vm) (hB : ∀ q, B q → A q) : tv_S G D ct B U := by
  obtain ⟨h1, h2, h3, h4, h5, h6, h7, h8, h9⟩ := h
  refine ⟨va_K.moved hW.alike h1, fun q hq => ?_, va_AO.moved hW.alike h3, fun q hq => va_Nc.moved hW.alike (h4 q hq), ?_, ?_, ?_, ?_, fun z => h9 (hB _ z)⟩
  · obtain ⟨a, ha⟩ := h2 q hq
    exact ⟨a, vk_R.warm hW ha⟩
  · rw [hU]
    exact ((h5.kept hS.2.1).moved hW.alike).narrow hB
  · rw [hU]
    exact ((h6.kept hS.2.1).moved hW.alike).narrow hB
  · rw [hU]
    exact va_X.moved hW.alike (va_X.kept h7 (hS.2.1 _ h8 h9))
  · rw [hU]
    exact Nat.lt_of_lt_of_le h8 hS.1
theorem tv_S.calling {G : tv_G} {D : va_G} {ct : Nat → ClassId} {A : Nat → Prop} {U : State} {g : JFrame} {mk : MethodId} {a : Array Value} (h : tv_S G D ct A U) : tv_S G D ct A (U.calling g mk a) :=
  tv_S.call (H := U.heap) (locs := []) h va_S.rf rfl (State.WarmedH.refl U) (fun _ q => q)
/-- where a method stands -/
def tv_C (k : tv_M) (p : Program) (l : Launch) (R : Room) (s : State) (m : MethodId) (args : Array Value) (meth : Method) (cd : Code) : Prop :=
  l.stackTraces = false ∧ p.tables.exec = Jvm.exec ∧ cd.code = k.2.1 ∧ meth.sig.returnType = k.2.2.2.1 ∧ cd.maxLocals = k.2.2.1 ∧ s.vm.findClass k.1.cls = some m.cls ∧ (∀ w ∈ tc_TB, w.before args s = true) ∧ meth.locks = false ∧
  cd.exceptionTable.toList = tableOf k.2.2.2.2.1 ∧ meth.name = k.1.name ∧ k.2.2.2.2.2.1 ≤ R.frames ∧ k.2.2.2.2.2.2 ≤ R.locals
def tv_L (as : List Nat) (ls : List (Option Value)) (lsm : Array Slot) (n : Nat) : Prop := ls.length = n ∧ ∃ lv, lv_has lsm n lv ∧ ∀ i v, ls[i]? = some (some v) → ∃ w, tv_v as v w ∧ w.category = 1 ∧ (i, w) ∈ lv
theorem tv_L.mono {as bs : List Nat} (h : as <+: bs) {ls : List (Option Value)} {lsm : Array Slot} {n : Nat} (hl : tv_L as ls lsm n) : tv_L bs ls lsm n := by
  obtain ⟨h0, lv, h1, h2⟩ := hl
  refine ⟨h0, lv, h1, fun i v hi => ?_⟩
  obtain ⟨w, e1, e2⟩ := h2 i v hi
  exact ⟨w, e1.mono h, e2⟩
theorem tv_L.get {as : List Nat} {ls : List (Option Value)} {lsm : Array Slot} {n i : Nat} {v : Value} (hl : tv_L as ls lsm n) (hi : ls[i]? = some (some v)) : ∃ w, tv_v as v w ∧ lsm[i]? = some (.val w) := by
  obtain ⟨h0, lv, h1, h2⟩ := hl
  obtain ⟨w, e1, e2, e3⟩ := h2 i v hi
  exact ⟨w, e1, h1.2.2 _ e3⟩
theorem tv_L.set {as : List Nat} {ls : List (Option Value)} {lsm : Array Slot} {n i : Nat} {v w : Value} {lv : List (Nat × Value)} (h0 : ls.length = n) (h2 : ∀ i v, ls[i]? = some (some v) → ∃ w, tv_v as v w ∧ w.category = 1 ∧ (i, w) ∈ lv)
    (hv : tv_v as v w) (hc : w.category = 1) (h : lv_has lsm n ((i, w) :: lv.filter (fun q => !(q.1 == i) && !(q.1 + 1 == i && q.2.category == 2)))) : tv_L as (ls.set i (some v)) lsm n := by
  refine ⟨by rw [List.length_set]; exact h0, _, h, fun j u hj => ?_⟩
  rw [List.getElem?_set] at hj
  by_cases hij : i = j
  · subst hij
    rw [if_pos rfl] at hj
    split at hj
    · cases hj
      exact ⟨w, hv, hc, List.mem_cons_self⟩
    · cases hj
  · rw [if_neg hij] at hj
    obtain ⟨w', e1, e2, e3⟩ := h2 j u hj
    refine ⟨w', e1, e2, List.mem_cons_of_mem _ (List.mem_filter.mpr ⟨e3, ?_⟩)⟩
    have q1 : (j == i) = false := by simpa using (fun e => hij e.symm)
    have q2 : (w'.category == 2) = false := by rw [e2]; rfl
    simp [q1, q2]
def tv_ov (as : List Nat) (v w : Option Value) : Prop := match v, w with
  | none, none => True
  | some v, some w => tv_v as v w
  | _, _ => False
def tv_Qc (D : va_G) (ct : Nat → ClassId) (A : Nat → Prop) (as0 : List Nat) (Q : tv_R → tv_H → Prop) : Array Value → State → Outcome → State → Prop := fun _ st o t =>
  (∃ (v w : Option Value) (h' : tv_H) (ws' : va_W), o = .returned w ∧ tv_ov (ws'.map Prod.fst) v w ∧ Q (.inl v) h' ∧ tv_W D ct A h' ws' t.heap ∧ as0 <+: ws'.map Prod.fst) ∧ va_F A st t
def tv_XC (D : va_G) (ct : Nat → ClassId) (A : Nat → Prop) (as0 : List Nat) (Q : tv_R → tv_H → Prop) : String → State → State → Prop := fun E st t =>
  (∃ (h' : tv_H) (ws' : va_W), Q (.inr E) h' ∧ tv_W D ct A h' ws' t.heap ∧ as0 <+: ws'.map Prod.fst) ∧ va_F A st t
/-- all that holds along a walk -/
def tv_I (G : tv_G) (k : tv_M) (ls : List (Option Value)) (h : tv_H) (c z : Nat) (p : Program) (l : Launch) (R : Room) (s : State) (m : MethodId) (args : Array Value) (meth : Method) (cd : Code) (H : Heap) (locs : List Loc) (cells slots mc ms : Nat) (D : va_G) (ct : Nat → ClassId) (A : Nat → Prop) (as0 : List Nat) (ws : va_W) (lsm : Array Slot) : Prop :=
  tv_C k p l R s m args meth cd ∧ tv_S G D ct A s ∧ (∀ q, s.heap.size ≤ q → A q) ∧ tv_W D ct A h ws H ∧ va_S A s.heap H locs ∧ as0 <+: ws.map Prod.fst ∧ tv_L (ws.map Prod.fst) ls lsm k.2.2.1 ∧ cells + c ≤ mc ∧ slots + z ≤ ms ∧ mc ≤ R.cells ∧ ms ≤ R.slots
/-- from here the method comes to an end that Q takes -/
def tv_Ev (G : tv_G) (k : tv_M) (pc : Nat) (ls : List (Option Value)) (st : List Value) (h : tv_H) (c z : Nat) (Q : tv_R → tv_H → Prop) : Prop :=
  ∀ (p : Program) (l : Launch) (e : Env) (R : Room) (s : State) (m : MethodId) (args : Array Value) (below : List Frame) (meth : Method) (cd : Code) (H : Heap) (locs : List Loc) (cells slots mc ms : Nat) (D : va_G) (ct : Nat → ClassId) (A : Nat → Prop) (as0 : List Nat) (ws : va_W) (lsm : Array Slot) (stm : List Value),
    tv_I G k ls h c z p l R s m args meth cd H locs cells slots mc ms D ct A as0 ws lsm → tv_vs (ws.map Prod.fst) st stm →
    W p l e R s m args below meth cd H locs cells slots (vx_MQ below (tv_Qc D ct A as0 Q) (tv_XC D ct A as0 Q) args s mc ms A) (F0 m pc lsm stm)
def tv_hw (k : tv_M) : Cond := match k.2.2.2.2.1 with
  | [] => .code k.1 k.2.1 k.2.2.1 k.2.2.2.1
  | hh => .codeWith k.1 k.2.1 k.2.2.1 k.2.2.2.1 hh
def tv_rm (k : tv_M) (mc ms : Nat) : Room := { frames := k.2.2.2.2.2.1, cells := mc, slots := ms, locals := k.2.2.2.2.2.2 }
/-- a method's contract: called with vs in the heap h it ends as Q says; at most mc cells of ms slots are new -/
def tv_Ct (G : tv_G) (k : tv_M) (vs : List Value) (h : tv_H) (mc ms : Nat) (Q : tv_R → tv_H → Prop) : Prop :=
  ∀ (l : Launch), l.stackTraces = false → ∀ (D : va_G) (ct : Nat → ClassId) (ws : va_W) (vm : List Value) (sz : Nat), tv_vs (ws.map Prod.fst) vs vm →
    vx_Met l k.1 (tv_hw k :: tc_TB) (tv_rm k mc ms) (va_Pc vm (fun U => U.heap.size = sz ∧ tv_W D ct (fun _ => True) h ws U.heap ∧ tv_S G D ct (va_A ws sz) U))
      (tv_Qc D ct (va_A ws sz) (ws.map Prod.fst) Q) (tv_XC D ct (va_A ws sz) (ws.map Prod.fst) Q) mc ms (va_A ws sz)
