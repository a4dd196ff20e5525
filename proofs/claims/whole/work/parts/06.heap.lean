/-! THE RULES that touch the heap -/
theorem tc_all : ∀ (ci : Nat) (C : String) (T : u_T) (N : Nat), tc_cl[ci]? = some (C, T, N) → ci < 6 ∧ (∀ w ∈ u_ws C T N, w ∈ tc_TB) ∧ ∃ ty : Nat → FieldType, (∀ k, k < N → parseFieldDescriptor (T k).2.2.1 = some (ty k)) ∧ ∀ a, a < N → ∀ b, b < N → a ≠ b → (T a).2.1 ≠ (T b).2.1 := by
  intro ci C T N h
  match ci, h with
  | 0, h => cases h; exact ⟨by decide, by decide +kernel, tc_Y0, tc_ok0, tc_nm0⟩
  | 1, h => cases h; exact ⟨by decide, by decide +kernel, tc_Y1, tc_ok1, tc_nm1⟩
  | 2, h => cases h; exact ⟨by decide, by decide +kernel, tc_Y2, tc_ok2, tc_nm2⟩
  | 3, h => cases h; exact ⟨by decide, by decide +kernel, tc_Y3, tc_ok3, tc_nm3⟩
  | 4, h => cases h; exact ⟨by decide, by decide +kernel, tc_Y4, tc_ok4, tc_nm4⟩
  | 5, h => cases h; exact ⟨by decide, by decide +kernel, tc_Y5, tc_ok5, tc_nm5⟩
  | k + 6, h => simp [tc_cl] at h
theorem tv_e.obj {as : List Nat} {ct : Nat → ClassId} {ci : Nat} {fs : List Value} {x : va_E} (h : tv_e as ct (ci, fs) x) (hc : ci < 6) : ∃ gs, x = .inr (ci, gs) ∧ tv_vs as fs gs := by
  rcases x with ⟨cA, n, f | f | f | f | g⟩ | ⟨o1, o2⟩
  · obtain ⟨t, h1, -⟩ := h
    exact absurd h1 (by simp only; omega)
  · exact absurd h.1 (by simp only; omega)
  · exact h.elim
  · exact h.elim
  · exact absurd h.1 (by simp only; omega)
  · obtain ⟨h1, h2, h3⟩ := h
    have h1 : ci = o1 := h1
    subst h1
    exact ⟨o2, rfl, h3⟩
theorem tv_e.ints {as : List Nat} {ct : Nat → ClassId} {t : Nat} {fs : List Value} {x : va_E} (h : tv_e as ct (100 + t, fs) x) (ht : t < 2) : ∃ f, x = .inl (ct t, fs.length, .inl f) ∧ ∀ i, i < fs.length → fs[i]? = some (.int (f i)) := by
  rcases x with ⟨cA, n, f | f | f | f | g⟩ | ⟨o1, o2⟩
  · obtain ⟨t', h1, h2, h3, h4, h5⟩ := h
    have e : t = t' := by simp only at h1; omega
    subst e
    have h4 : n = fs.length := h4
    subst h4
    subst h3
    exact ⟨f, rfl, h5⟩
  · exact absurd h.1 (by simp only; omega)
  · exact h.elim
  · exact h.elim
  · exact absurd h.1 (by simp only; omega)
  · obtain ⟨h1, h2, h3⟩ := h
    exact absurd h1 (by simp only; simp only at h2; omega)
theorem tv_e.longs {as : List Nat} {ct : Nat → ClassId} {fs : List Value} {x : va_E} (h : tv_e as ct (102, fs) x) : ∃ f, x = .inl (ct 2, fs.length, .inr (.inl f)) ∧ ∀ i, i < fs.length → fs[i]? = some (.long (f i)) := by
  rcases x with ⟨cA, n, f | f | f | f | g⟩ | ⟨o1, o2⟩
  · obtain ⟨t', h1, h2, -⟩ := h
    exact absurd h1 (by simp only; omega)
  · obtain ⟨-, h3, h4, h5⟩ := h
    have h4 : n = fs.length := h4
    subst h4
    subst h3
    exact ⟨f, rfl, h5⟩
  · exact h.elim
  · exact h.elim
  · exact absurd h.1 (by simp)
  · obtain ⟨h1, h2, h3⟩ := h
    exact absurd h1 (by simp only; simp only at h2; omega)
theorem tv_e.refs {as : List Nat} {ct : Nat → ClassId} {fs : List Value} {x : va_E} (h : tv_e as ct (103, fs) x) : ∃ g, x = .inl (ct 3, fs.length, .inr (.inr (.inr (.inr g)))) ∧ ∀ i, i < fs.length → ∃ v, fs[i]? = some v ∧ tv_v as v (va_rf (g i)) := by
  rcases x with ⟨cA, n, f | f | f | f | g⟩ | ⟨o1, o2⟩
  · obtain ⟨t', h1, h2, -⟩ := h
    exact absurd h1 (by simp only; omega)
  · exact absurd h.1 (by simp)
  · exact h.elim
  · exact h.elim
  · obtain ⟨-, h3, h4, h5⟩ := h
    have h4 : n = fs.length := h4
    subst h4
    subst h3
    exact ⟨g, rfl, h5⟩
  · obtain ⟨h1, h2, h3⟩ := h
    exact absurd h1 (by simp only; simp only at h2; omega)
/-- the cell of a virtual object -/
theorem tv_W.at {D : va_G} {ct : Nat → ClassId} {A : Nat → Prop} {h : tv_H} {ws : va_W} {H : Heap} (w : tv_W D ct A h ws H) {a q : Nat} {e : tv_E} (hh : h[a]? = some e) (hq : (ws.map Prod.fst)[a]? = some q) : ∃ x, ws[a]? = some (q, x) ∧ tv_e (ws.map Prod.fst) ct e x := by
  obtain ⟨q', x, h1, h2⟩ := w.2.2.get hh
  rw [List.getElem?_map, h1] at hq
  cases hq
  exact ⟨x, h1, h2⟩
/-- a field's link: own reads field j of the kind ci by its row idx -/
def tv_fl (own : String) (idx ci j : Nat) : Prop := ∃ C T N, tc_cl[ci]? = some (C, T, N) ∧ j < N ∧ ((Cond.fieldLink own idx (T j).1 (T j).2.1 (T j).2.2.1) ∈ tc_TB ∨ ∃ host, (Cond.fieldLinkNest own idx (T j).1 (T j).2.1 (T j).2.2.1 host) ∈ tc_TB)
/-- .. and may write it: of a kind whose own method (y, its name) it is, or not final -/
def tv_fp (own y : String) (idx ci j : Nat) (t : FieldType) : Prop := ∃ C T N, tc_cl[ci]? = some (C, T, N) ∧ j < N ∧ parseFieldDescriptor (T j).2.2.1 = some t ∧ (((T j).2.2.2 = false ∧ ((Cond.fieldLink own idx (T j).1 (T j).2.1 (T j).2.2.1) ∈ tc_TB ∨ ∃ host, (Cond.fieldLinkNest own idx (T j).1 (T j).2.1 (T j).2.2.1 host) ∈ tc_TB)) ∨ ((T j).2.2.2 = true ∧ y = "<init>" ∧ (T j).1 = own ∧ (Cond.fieldLink own idx (T j).1 (T j).2.1 (T j).2.2.1) ∈ tc_TB))
section
variable {G : tv_G} {k : tv_M} {pc : Nat} {ls : List (Option Value)} {st : List Value} {h : tv_H} {c z : Nat} {Q : tv_R → tv_H → Prop}
theorem ev_getfield {idx a : Nat} (ci j : Nat) {fs : List Value} {v : Value} (hd : decode k.2.1 pc = .ok (.getfield idx, 3)) (hf : tv_fl k.1.cls idx ci j) (hh : h[a]? = some (ci, fs)) (hv : fs[j]? = some v) (kk : tv_Ev G k (pc + 3) ls (v :: st) h c z Q) : tv_Ev G k pc ls (.ref a :: st) h c z Q := by
  intro p l e R s m args below meth cd H locs cells slots mc ms D ct A as0 ws lsm stm I hT
  obtain ⟨w1, s1, rfl, ⟨q, hq, rfl⟩, hR⟩ := hT.cons
  obtain ⟨x, hx, he⟩ := I.2.2.2.1.at hh hq
  obtain ⟨C, T, N, hc, hj, hl⟩ := hf
  obtain ⟨hci, hin, -⟩ := tc_all ci C T N hc
  obtain ⟨gs, rfl, hg⟩ := he.obj hci
  obtain ⟨w, hw, hvw⟩ := hg.get hv
  have hts := I.1.2.2.2.2.2.2.1
  rcases hl with hl | ⟨host, hl⟩
  · exact va_get (D := D) (ci := ci) (v := w) (C := C) (T := T) (N := N) I.1.2.1 I.1.2.2.1 hts hin I.1.2.2.2.2.2.1 I.2.1.1 I.2.2.2.1.1 a hx hc j hj (hts _ hl) (fun _ h9 => h9) hw hd (kk p l e R s m args below meth cd H locs cells slots mc ms D ct A as0 ws lsm _ I ⟨hvw, hR⟩)
  · exact va_getN (D := D) (ci := ci) (v := w) (C := C) (T := T) (N := N) I.1.2.1 I.1.2.2.1 hts hin I.1.2.2.2.2.2.1 I.2.1.1 I.2.2.2.1.1 a hx hc j hj (hts _ hl) (fun _ h9 => h9) hw hd (kk p l e R s m args below meth cd H locs cells slots mc ms D ct A as0 ws lsm _ I ⟨hvw, hR⟩)
theorem ev_putfield {idx a : Nat} (ci j : Nat) (t : FieldType) {fs : List Value} {v : Value} (hd : decode k.2.1 pc = .ok (.putfield idx, 3)) (hp : tv_fp k.1.cls k.1.name idx ci j t) (hh : h[a]? = some (ci, fs)) (hj : j < fs.length)
    (hn : ∀ w as, tv_v as v w → narrow t w = w ∧ fits t w = true) (kk : tv_Ev G k (pc + 3) ls st (h.set a (ci, fs.set j v)) c z Q) : tv_Ev G k pc ls (v :: .ref a :: st) h c z Q := by
  intro p l e R s m args below meth cd H locs cells slots mc ms D ct A as0 ws lsm stm I hT
  obtain ⟨w, s1, rfl, hvw, hR⟩ := hT.cons
  obtain ⟨w1, s2, rfl, ⟨q, hq, rfl⟩, hR2⟩ := hR.cons
  obtain ⟨x, hx, he⟩ := I.2.2.2.1.at hh hq
  obtain ⟨C, T, N, hc, hjN, hpt, hl⟩ := hp
  obtain ⟨hci, hin, ty, hty, hnm⟩ := tc_all ci C T N hc
  obtain ⟨gs, rfl, hg⟩ := he.obj hci
  have hts := I.1.2.2.2.2.2.2.1
  have hgl : j < gs.length := hg.len ▸ hj
  obtain ⟨n1, n2⟩ := hn w _ hvw
  have he' : tv_e (ws.map Prod.fst) ct (ci, fs.set j v) (.inr (ci, gs.set j w)) := ⟨rfl, by show ci < 100; omega, hg.set hvw⟩
  have hnext : ∀ (H1 : Heap) (locs1 : List Loc), va_P D tc_cl (ws.set a (q, .inr (ci, gs.set j w))) H1 → va_D A (ws.set a (q, .inr (ci, gs.set j w))) → va_S A s.heap H1 locs1 → W p l e R s m args below meth cd H1 locs1 cells slots (vx_MQ below (tv_Qc D ct A as0 Q) (tv_XC D ct A as0 Q) args s mc ms A) (F0 m (pc + 3) lsm s2) := fun H1 locs1 hP hD hS =>
    kk p l e R s m args below meth cd H1 locs1 cells slots mc ms D ct A as0 _ lsm _ (I.heap hP hD hS (tv_fst_set hx) (tv_hs.set he' I.2.2.2.1.2.2)) (by rw [tv_fst_set hx]; exact hR2)
  rcases hl with ⟨hfin, hl | ⟨host, hl⟩⟩ | ⟨hfin, hy, hdecl, hl⟩
  · exact va_put (D := D) (ci := ci) (v := w) (C := C) (T := T) (N := N) I.1.2.1 I.1.2.2.1 hts hin ty hty hnm I.1.2.2.2.2.2.1 I.2.1.1 I.2.2.2.1.1 I.2.2.2.1.2.1 I.2.2.2.2.1 a hx hc j hjN (hts _ hl) (fun _ h9 => h9) hfin hpt n1 n2 hgl hd hnext
  · exact va_putN (D := D) (ci := ci) (v := w) (C := C) (T := T) (N := N) I.1.2.1 I.1.2.2.1 hts hin ty hty hnm I.1.2.2.2.2.2.1 I.2.1.1 I.2.2.2.1.1 I.2.2.2.1.2.1 I.2.2.2.2.1 a hx hc j hjN (hts _ hl) (fun _ h9 => h9) hfin hpt n1 n2 hgl hd hnext
  · exact va_putF (D := D) (ci := ci) (v := w) (C := C) (T := T) (N := N) I.1.2.1 I.1.2.2.1 hts hin ty hty hnm I.1.2.2.2.2.2.1 I.2.1.1 I.2.2.2.1.1 I.2.2.2.1.2.1 I.2.2.2.2.1 a hx hc j hjN (hts _ hl) (fun _ h9 => h9) hfin (by rw [I.1.2.2.2.2.2.2.2.2.2.1]; exact hy) hdecl hpt n1 n2 hgl hd hnext
/-- an int into an int field -/
theorem ev_putI {idx a : Nat} (ci j : Nat) {fs : List Value} {x : Int32} (hd : decode k.2.1 pc = .ok (.putfield idx, 3)) (hp : tv_fp k.1.cls k.1.name idx ci j .int) (hh : h[a]? = some (ci, fs)) (hj : j < fs.length)
    (kk : tv_Ev G k (pc + 3) ls st (h.set a (ci, fs.set j (.int x))) c z Q) : tv_Ev G k pc ls (.int x :: .ref a :: st) h c z Q :=
  ev_putfield ci j .int hd hp hh hj (fun w as hw => by have hw : w = .int x := hw; subst hw; exact ⟨rfl, rfl⟩) kk
/-- a reference into a field of references -/
theorem ev_putR {idx a b : Nat} (ci j : Nat) (t : FieldType) {fs : List Value} (hd : decode k.2.1 pc = .ok (.putfield idx, 3)) (hp : tv_fp k.1.cls k.1.name idx ci j t) (ht : ∀ q, narrow t (.ref q) = .ref q ∧ fits t (.ref q) = true) (hh : h[a]? = some (ci, fs)) (hj : j < fs.length)
    (kk : tv_Ev G k (pc + 3) ls st (h.set a (ci, fs.set j (.ref b))) c z Q) : tv_Ev G k pc ls (.ref b :: .ref a :: st) h c z Q :=
  ev_putfield ci j t hd hp hh hj (fun w as hw => by obtain ⟨q, -, rfl⟩ := hw; exact ht q) kk
theorem ev_baload {a : Nat} {fs : List Value} {i : Int32} (j : Nat) {v : Value} (hd : decode k.2.1 pc = .ok (.baload, 1)) (hh : h[a]? = some (100, fs)) (hi : i = nI j) (hj : fs[j]? = some v) (hl : fs.length < 2 ^ 31) (kk : tv_Ev G k (pc + 1) ls (v :: st) h c z Q) : tv_Ev G k pc ls (.int i :: .ref a :: st) h c z Q := by
  intro p l e R s m args below meth cd H locs cells slots mc ms D ct A as0 ws lsm stm I hT
  obtain ⟨w1, s1, rfl, e1, hR⟩ := hT.cons
  have e1 : w1 = .int i := e1
  subst e1
  obtain ⟨w2, s2, rfl, ⟨q, hq, rfl⟩, hR2⟩ := hR.cons
  obtain ⟨x, hx, he⟩ := I.2.2.2.1.at hh hq
  obtain ⟨f, rfl, hf⟩ := tv_e.ints (t := 0) he (by decide)
  have hjl := (List.getElem?_eq_some_iff.mp hj).1
  have hv : v = .int (f j) := Option.some.inj (hj.symm.trans (hf j hjl))
  subst hv
  subst hi
  have hcl : (nI j).toNatClampNeg = j := nI_clamp (by omega)
  refine va_bald I.1.2.1 I.1.2.2.1 I.2.1.1 I.2.2.2.1.1 a 0 hx rfl (vp_in_nI hjl hl) hd ?_
  rw [hcl]
  exact kk p l e R s m args below meth cd H locs cells slots mc ms D ct A as0 ws lsm _ I ⟨rfl, hR2⟩
theorem ev_iaload {a : Nat} {fs : List Value} {i : Int32} (j : Nat) {v : Value} (hd : decode k.2.1 pc = .ok (.iaload, 1)) (hh : h[a]? = some (101, fs)) (hi : i = nI j) (hj : fs[j]? = some v) (hl : fs.length < 2 ^ 31) (kk : tv_Ev G k (pc + 1) ls (v :: st) h c z Q) : tv_Ev G k pc ls (.int i :: .ref a :: st) h c z Q := by
  intro p l e R s m args below meth cd H locs cells slots mc ms D ct A as0 ws lsm stm I hT
  obtain ⟨w1, s1, rfl, e1, hR⟩ := hT.cons
  have e1 : w1 = .int i := e1
  subst e1
  obtain ⟨w2, s2, rfl, ⟨q, hq, rfl⟩, hR2⟩ := hR.cons
  obtain ⟨x, hx, he⟩ := I.2.2.2.1.at hh hq
  obtain ⟨f, rfl, hf⟩ := tv_e.ints (t := 1) he (by decide)
  have hjl := (List.getElem?_eq_some_iff.mp hj).1
  have hv : v = .int (f j) := Option.some.inj (hj.symm.trans (hf j hjl))
  subst hv
  subst hi
  have hcl : (nI j).toNatClampNeg = j := nI_clamp (by omega)
  refine va_iald I.1.2.1 I.1.2.2.1 I.2.1.1 I.2.2.2.1.1 a 1 hx rfl (vp_in_nI hjl hl) hd ?_
  rw [hcl]
  exact kk p l e R s m args below meth cd H locs cells slots mc ms D ct A as0 ws lsm _ I ⟨rfl, hR2⟩
theorem ev_laload {a : Nat} {fs : List Value} {i : Int32} (j : Nat) {v : Value} (hd : decode k.2.1 pc = .ok (.laload, 1)) (hh : h[a]? = some (102, fs)) (hi : i = nI j) (hj : fs[j]? = some v) (hl : fs.length < 2 ^ 31) (kk : tv_Ev G k (pc + 1) ls (v :: st) h c z Q) : tv_Ev G k pc ls (.int i :: .ref a :: st) h c z Q := by
  intro p l e R s m args below meth cd H locs cells slots mc ms D ct A as0 ws lsm stm I hT
  obtain ⟨w1, s1, rfl, e1, hR⟩ := hT.cons
  have e1 : w1 = .int i := e1
  subst e1
  obtain ⟨w2, s2, rfl, ⟨q, hq, rfl⟩, hR2⟩ := hR.cons
  obtain ⟨x, hx, he⟩ := I.2.2.2.1.at hh hq
  obtain ⟨f, rfl, hf⟩ := tv_e.longs he
  have hjl := (List.getElem?_eq_some_iff.mp hj).1
  have hv : v = .long (f j) := Option.some.inj (hj.symm.trans (hf j hjl))
  subst hv
  subst hi
  have hcl : (nI j).toNatClampNeg = j := nI_clamp (by omega)
  refine va_lald I.1.2.1 I.1.2.2.1 I.2.1.1 I.2.2.2.1.1 a 2 hx rfl (vp_in_nI hjl hl) hd ?_
  rw [hcl]
  exact kk p l e R s m args below meth cd H locs cells slots mc ms D ct A as0 ws lsm _ I ⟨rfl, hR2⟩
theorem ev_aaload {a : Nat} {fs : List Value} {i : Int32} (j : Nat) {v : Value} (hd : decode k.2.1 pc = .ok (.aaload, 1)) (hh : h[a]? = some (103, fs)) (hi : i = nI j) (hj : fs[j]? = some v) (hl : fs.length < 2 ^ 31) (kk : tv_Ev G k (pc + 1) ls (v :: st) h c z Q) : tv_Ev G k pc ls (.int i :: .ref a :: st) h c z Q := by
  intro p l e R s m args below meth cd H locs cells slots mc ms D ct A as0 ws lsm stm I hT
  obtain ⟨w1, s1, rfl, e1, hR⟩ := hT.cons
  have e1 : w1 = .int i := e1
  subst e1
  obtain ⟨w2, s2, rfl, ⟨q, hq, rfl⟩, hR2⟩ := hR.cons
  obtain ⟨x, hx, he⟩ := I.2.2.2.1.at hh hq
  obtain ⟨f, rfl, hf⟩ := tv_e.refs he
  have hjl := (List.getElem?_eq_some_iff.mp hj).1
  obtain ⟨v', hv1, hv2⟩ := hf j hjl
  cases Option.some.inj (hj.symm.trans hv1)
  subst hi
  have hcl : (nI j).toNatClampNeg = j := nI_clamp (by omega)
  refine va_aldq I.1.2.1 I.1.2.2.1 I.2.1.1 I.2.2.2.1.1 a 3 hx rfl (vp_in_nI hjl hl) hd ?_
  rw [hcl]
  exact kk p l e R s m args below meth cd H locs cells slots mc ms D ct A as0 ws lsm _ I ⟨hv2, hR2⟩
theorem ev_bastore {a : Nat} {fs : List Value} {i : Int32} {x : Int32} (j : Nat) (hd : decode k.2.1 pc = .ok (.bastore, 1)) (hh : h[a]? = some (100, fs)) (hi : i = nI j) (hj : j < fs.length) (hl : fs.length < 2 ^ 31) (kk : tv_Ev G k (pc + 1) ls st (h.set a (100, fs.set j (.int x.toInt8.toInt32))) c z Q) : tv_Ev G k pc ls (.int x :: .int i :: .ref a :: st) h c z Q := by
  intro p l e R s m args below meth cd H locs cells slots mc ms D ct A as0 ws lsm stm I hT
  obtain ⟨w0, s0, rfl, e0, hR0⟩ := hT.cons
  have e0 : w0 = .int x := e0
  subst e0
  obtain ⟨w1, s1, rfl, e1, hR⟩ := hR0.cons
  have e1 : w1 = .int i := e1
  subst e1
  obtain ⟨w2, s2, rfl, ⟨q, hq, rfl⟩, hR2⟩ := hR.cons
  obtain ⟨y, hy, he⟩ := I.2.2.2.1.at hh hq
  obtain ⟨f, rfl, hf⟩ := tv_e.ints (t := 0) he (by decide)
  subst hi
  have hcl : (nI j).toNatClampNeg = j := nI_clamp (by omega)
  refine va_bast I.1.2.1 I.1.2.2.1 I.2.1.1 I.2.2.2.1.1 I.2.2.2.1.2.1 I.2.2.2.2.1 a 0 hy rfl (vp_in_nI hj hl) hd (fun H1 locs1 hP hD hS => ?_)
  rw [hcl] at hP hD
  have he' : tv_e (ws.map Prod.fst) ct (100, fs.set j (.int x.toInt8.toInt32)) (.inl (ct 0, fs.length, .inl (upd f j (vp_nar .byte x)))) := ⟨0, rfl, by decide, rfl, by simp, fun n hn => by
      rw [List.getElem?_set]
      by_cases hnj : j = n
      · subst hnj
        rw [if_pos rfl, if_pos hn]
        simp [upd, vp_nar_byte]
      · rw [if_neg hnj, hf n hn]
        simp [upd, Ne.symm hnj]⟩
  exact kk p l e R s m args below meth cd H1 locs1 cells slots mc ms D ct A as0 _ lsm _ (I.heap hP hD hS (tv_fst_set hy) (tv_hs.set he' I.2.2.2.1.2.2)) (by rw [tv_fst_set hy]; exact hR2)
theorem ev_iastore {a : Nat} {fs : List Value} {i : Int32} {x : Int32} (j : Nat) (hd : decode k.2.1 pc = .ok (.iastore, 1)) (hh : h[a]? = some (101, fs)) (hi : i = nI j) (hj : j < fs.length) (hl : fs.length < 2 ^ 31) (kk : tv_Ev G k (pc + 1) ls st (h.set a (101, fs.set j (.int x))) c z Q) : tv_Ev G k pc ls (.int x :: .int i :: .ref a :: st) h c z Q := by
  intro p l e R s m args below meth cd H locs cells slots mc ms D ct A as0 ws lsm stm I hT
  obtain ⟨w0, s0, rfl, e0, hR0⟩ := hT.cons
  have e0 : w0 = .int x := e0
  subst e0
  obtain ⟨w1, s1, rfl, e1, hR⟩ := hR0.cons
  have e1 : w1 = .int i := e1
  subst e1
  obtain ⟨w2, s2, rfl, ⟨q, hq, rfl⟩, hR2⟩ := hR.cons
  obtain ⟨y, hy, he⟩ := I.2.2.2.1.at hh hq
  obtain ⟨f, rfl, hf⟩ := tv_e.ints (t := 1) he (by decide)
  subst hi
  have hcl : (nI j).toNatClampNeg = j := nI_clamp (by omega)
  refine va_iast I.1.2.1 I.1.2.2.1 I.2.1.1 I.2.2.2.1.1 I.2.2.2.1.2.1 I.2.2.2.2.1 a 1 hy rfl (vp_in_nI hj hl) hd (fun H1 locs1 hP hD hS => ?_)
  rw [hcl] at hP hD
  have he' : tv_e (ws.map Prod.fst) ct (101, fs.set j (.int x)) (.inl (ct 1, fs.length, .inl (upd f j x))) := ⟨1, rfl, by decide, rfl, by simp, fun n hn => by
      rw [List.getElem?_set]
      by_cases hnj : j = n
      · subst hnj
        rw [if_pos rfl, if_pos hn]
        simp [upd]
      · rw [if_neg hnj, hf n hn]
        simp [upd, Ne.symm hnj]⟩
  exact kk p l e R s m args below meth cd H1 locs1 cells slots mc ms D ct A as0 _ lsm _ (I.heap hP hD hS (tv_fst_set hy) (tv_hs.set he' I.2.2.2.1.2.2)) (by rw [tv_fst_set hy]; exact hR2)
theorem ev_lastore {a : Nat} {fs : List Value} {i : Int32} {x : Int64} (j : Nat) (hd : decode k.2.1 pc = .ok (.lastore, 1)) (hh : h[a]? = some (102, fs)) (hi : i = nI j) (hj : j < fs.length) (hl : fs.length < 2 ^ 31) (kk : tv_Ev G k (pc + 1) ls st (h.set a (102, fs.set j (.long x))) c z Q) : tv_Ev G k pc ls (.long x :: .int i :: .ref a :: st) h c z Q := by
  intro p l e R s m args below meth cd H locs cells slots mc ms D ct A as0 ws lsm stm I hT
  obtain ⟨w0, s0, rfl, e0, hR0⟩ := hT.cons
  have e0 : w0 = .long x := e0
  subst e0
  obtain ⟨w1, s1, rfl, e1, hR⟩ := hR0.cons
  have e1 : w1 = .int i := e1
  subst e1
  obtain ⟨w2, s2, rfl, ⟨q, hq, rfl⟩, hR2⟩ := hR.cons
  obtain ⟨y, hy, he⟩ := I.2.2.2.1.at hh hq
  obtain ⟨f, rfl, hf⟩ := tv_e.longs he
  subst hi
  have hcl : (nI j).toNatClampNeg = j := nI_clamp (by omega)
  refine va_last I.1.2.1 I.1.2.2.1 I.2.1.1 I.2.2.2.1.1 I.2.2.2.1.2.1 I.2.2.2.2.1 a 2 hy rfl (vp_in_nI hj hl) hd (fun H1 locs1 hP hD hS => ?_)
  rw [hcl] at hP hD
  have he' : tv_e (ws.map Prod.fst) ct (102, fs.set j (.long x)) (.inl (ct 2, fs.length, .inr (.inl (vp_updL f j x)))) := ⟨rfl, rfl, by simp, fun n hn => by
      rw [List.getElem?_set]
      by_cases hnj : j = n
      · subst hnj
        rw [if_pos rfl, if_pos hn]
        simp [vp_updL]
      · rw [if_neg hnj, hf n hn]
        simp [vp_updL, Ne.symm hnj]⟩
  exact kk p l e R s m args below meth cd H1 locs1 cells slots mc ms D ct A as0 _ lsm _ (I.heap hP hD hS (tv_fst_set hy) (tv_hs.set he' I.2.2.2.1.2.2)) (by rw [tv_fst_set hy]; exact hR2)
theorem ev_aastore {a b : Nat} {fs gs : List Value} {i : Int32} (j : Nat) (hd : decode k.2.1 pc = .ok (.aastore, 1)) (hh : h[a]? = some (103, fs)) (hb : h[b]? = some (0, gs)) (hi : i = nI j) (hj : j < fs.length) (hl : fs.length < 2 ^ 31) (kk : tv_Ev G k (pc + 1) ls st (h.set a (103, fs.set j (.ref b))) c z Q) : tv_Ev G k pc ls (.ref b :: .int i :: .ref a :: st) h c z Q := by
  intro p l e R s m args below meth cd H locs cells slots mc ms D ct A as0 ws lsm stm I hT
  obtain ⟨w0, s0, rfl, ⟨qb, hqb, rfl⟩, hR0⟩ := hT.cons
  obtain ⟨w1, s1, rfl, e1, hR⟩ := hR0.cons
  have e1 : w1 = .int i := e1
  subst e1
  obtain ⟨w2, s2, rfl, ⟨q, hq, rfl⟩, hR2⟩ := hR.cons
  obtain ⟨y, hy, he⟩ := I.2.2.2.1.at hh hq
  obtain ⟨f, rfl, hf⟩ := tv_e.refs he
  obtain ⟨yb, hyb, heb⟩ := I.2.2.2.1.at hb hqb
  obtain ⟨ob, rfl, -⟩ := heb.obj (by decide)
  subst hi
  have hcl : (nI j).toNatClampNeg = j := nI_clamp (by omega)
  refine va_astq I.1.2.1 I.1.2.2.1 I.2.1.1 I.2.2.2.1.1 I.2.2.2.1.2.1 I.2.2.2.2.1 a 3 b 0 (r := (tc_R0, tc_T0, 4)) hy rfl hyb rfl (vp_in_nI hj hl) hd (fun H1 locs1 hP hD hS => ?_)
  rw [hcl] at hP hD
  have he' : tv_e (ws.map Prod.fst) ct (103, fs.set j (.ref b)) (.inl (ct 3, fs.length, .inr (.inr (.inr (.inr (va_up f j (some qb))))))) := ⟨rfl, rfl, by simp, fun n hn => by
      by_cases hnj : j = n
      · subst hnj
        exact ⟨.ref b, by rw [List.getElem?_set, if_pos rfl, if_pos hn], qb, hqb, by simp [va_up, va_rf]⟩
      · obtain ⟨v, h1, h2⟩ := hf n hn
        exact ⟨v, by rw [List.getElem?_set, if_neg hnj]; exact h1, by simpa [va_up, Ne.symm hnj] using h2⟩⟩
  exact kk p l e R s m args below meth cd H1 locs1 cells slots mc ms D ct A as0 _ lsm _ (I.heap hP hD hS (tv_fst_set hy) (tv_hs.set he' I.2.2.2.1.2.2)) (by rw [tv_fst_set hy]; exact hR2)
/-- the script -/
theorem ev_slen (hd : decode k.2.1 pc = .ok (.arraylength, 1)) (kk : tv_Ev G k (pc + 1) ls (.int (nI G.2.1) :: st) h c z Q) : tv_Ev G k pc ls (.retAddr G.1 :: st) h c z Q := by
  intro p l e R s m args below meth cd H locs cells slots mc ms D ct A as0 ws lsm stm I hT
  obtain ⟨w1, s1, rfl, e1, hR⟩ := hT.cons
  have e1 : w1 = .ref G.1 := e1
  subst e1
  obtain ⟨-, -, -, -, -, -, hX, hb, hA⟩ := id I.2.1
  exact va_slen I.1.2.1 I.1.2.2.1 hX hb hA I.2.2.2.2.1 hd (kk p l e R s m args below meth cd H locs cells slots mc ms D ct A as0 ws lsm _ I ⟨rfl, hR⟩)
theorem ev_sld {i : Int32} (j : Nat) (hd : decode k.2.1 pc = .ok (.iaload, 1)) (hi : i = nI j) (hj : j < G.2.1) (hl : G.2.1 < 2 ^ 31) (kk : tv_Ev G k (pc + 1) ls (.int (G.2.2 j) :: st) h c z Q) : tv_Ev G k pc ls (.int i :: .retAddr G.1 :: st) h c z Q := by
  intro p l e R s m args below meth cd H locs cells slots mc ms D ct A as0 ws lsm stm I hT
  obtain ⟨w0, s0, rfl, e0, hR0⟩ := hT.cons
  have e0 : w0 = .int i := e0
  subst e0
  obtain ⟨w1, s1, rfl, e1, hR⟩ := hR0.cons
  have e1 : w1 = .ref G.1 := e1
  subst e1
  obtain ⟨-, -, -, -, -, -, hX, hb, hA⟩ := id I.2.1
  subst hi
  have hcl : (nI j).toNatClampNeg = j := nI_clamp (by omega)
  refine va_sld I.1.2.1 I.1.2.2.1 hX hb hA I.2.2.2.2.1 (vp_in_nI hj hl) hd ?_
  rw [hcl]
  exact kk p l e R s m args below meth cd H locs cells slots mc ms D ct A as0 ws lsm _ I ⟨rfl, hR⟩
end
