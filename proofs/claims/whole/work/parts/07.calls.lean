/-! THE RULES for new cells, ends, throws and calls -/
theorem tv_last {ws : va_W} {h : tv_H} {as : List Nat} {ct : Nat → ClassId} {q : Nat} {x : va_E} (hh : tv_hs as ct h ws) : ((ws ++ [(q, x)]).map Prod.fst)[h.length]? = some q := by
  rw [List.getElem?_map, hh.len, List.getElem?_concat_length]
  rfl
theorem tv_ra {D : va_G} {tys : List (ClassId × FieldType)} {s : State} {a b : ClassId} {i j : Nat} {t : FieldType} (h : va_K D tc_cl tys s) (hi : tys[i]? = some (a, t)) (hj : tys[j]? = some (b, t)) : a = b := by
  have h1 := (h.2 i _ hi).2
  have h2 := (h.2 j _ hj).2
  cases t with
  | object C =>
    obtain ⟨_, _, -, -, -, e1⟩ := h1
    obtain ⟨_, _, -, -, -, e2⟩ := h2
    exact Option.some.inj (e1.symm.trans e2)
  | _ => exact Option.some.inj (h1.symm.trans h2)
section
variable {G : tv_G} {k : tv_M} {pc : Nat} {ls : List (Option Value)} {st : List Value} {h : tv_H} {c z : Nat} {Q : tv_R → tv_H → Prop}
theorem ev_new {idx : Nat} (ci : Nat) (fs : List Value) (C : String) (T : u_T) (N : Nat) (hd : decode k.2.1 pc = .ok (.new idx, 3)) (hc : tc_cl[ci]? = some (C, T, N)) (w1 : Cond.classLink k.1.cls idx C ∈ tc_TB) (w2 : Cond.instantiable C N ∈ tc_TB) (w3 : Cond.initialized C ∈ tc_TB)
    (hfs : ∀ j, j < N → (parseFieldDescriptor (T j).2.2.1).map defaultValue = some (vp_V fs j)) (hv : ∀ as, tv_vs as fs fs) (kk : tv_Ev G k (pc + 3) ls (.ref h.length :: st) (h ++ [(ci, fs)]) c z Q) : tv_Ev G k pc ls st h (c + 1) (z + N) Q := by
  intro p l e R s m args below meth cd H locs cells slots mc ms D ct A as0 ws lsm stm I hT
  obtain ⟨hci, hin, ty, hty, hnm⟩ := tc_all ci C T N hc
  have hts := I.1.2.2.2.2.2.2.1
  have b1 := I.2.2.2.2.2.2.2
  refine va_new (ci := ci) (fs := fs) (C := C) (T := T) (N := N) I.1.2.1 I.1.2.2.1 hts hin ty hty I.1.2.2.2.2.2.1 (hts _ w1) (hts _ w2) (hts _ w3) I.2.1.1 I.2.2.2.1.1 I.2.2.2.1.2.1 I.2.2.2.2.1 I.2.2.1 hc (fun j hj => ?_) (by omega) (by omega) hd (fun q H1 hP hD hS => ?_)
  · have h1 := hfs j hj
    rw [hty j hj] at h1
    exact Option.some.inj h1
  · have I' := tv_I.push (e := (ci, fs)) I hP hD hS ⟨rfl, by show ci < 100; omega, hv _⟩
    exact kk p l e R s m args below meth cd H1 locs (cells + 1) (slots + N) mc ms D ct A as0 _ lsm _ I' ⟨⟨q, tv_last I.2.2.2.1.2.2, rfl⟩, hT.mono (by rw [List.map_append]; exact List.prefix_append _ _)⟩
theorem ev_newbyte {n : Int32} (N : Nat) (hd : decode k.2.1 pc = .ok (.newarray .byte, 2)) (hn : n = nI N) (hN : N < 2 ^ 20) (w1 : Cond.arrayClass .byte ∈ tc_TB) (kk : tv_Ev G k (pc + 2) ls (.ref h.length :: st) (h ++ [(100, List.replicate N (.int 0))]) c z Q) : tv_Ev G k pc ls (.int n :: st) h (c + 1) (z + N) Q := by
  intro p l e R s m args below meth cd H locs cells slots mc ms D ct A as0 ws lsm stm I hT
  obtain ⟨w, s1, rfl, hw, hR⟩ := hT.cons
  have hw : w = .int n := hw
  subst hw
  have b1 := I.2.2.2.2.2.2.2
  have hts := I.1.2.2.2.2.2.2.1
  subst hn
  refine va_newa (atype := .byte) (ty := .byte) (a0 := (N, .inl (fun _ => 0))) I.1.2.1 I.1.2.2.1 (hts _ w1) rfl I.2.1.1 I.2.2.2.1.1 I.2.2.2.1.2.1 I.2.2.2.2.1 I.2.2.1 (fun _ => rfl) (nI_pos (by omega)) (nI_clamp (by omega)) (by show N * 1 ≤ _; omega) (by omega) (by omega) hd (fun q cA H1 hK hP hD hS => ?_)
  have hcA : cA = ct 0 := tv_ra (i := 4) (j := 0) hK rfl rfl
  subst hcA
  have he : tv_e ((ws ++ [(q, (.inl (ct 0, N, .inl (fun _ => (0 : Int32))) : va_E))]).map Prod.fst) ct (100, List.replicate N (.int 0)) (.inl (ct 0, N, .inl (fun _ => 0))) := ⟨0, rfl, by decide, rfl, by simp, fun i hi => by rw [List.getElem?_replicate, if_pos hi]⟩
  have I' := tv_I.push (e := (100, List.replicate N (.int 0))) I hP hD hS he
  exact kk p l e R s m args below meth cd H1 locs (cells + 1) (slots + N) mc ms D ct A as0 _ lsm _ I' ⟨⟨q, tv_last I.2.2.2.1.2.2, rfl⟩, hR.mono (by rw [List.map_append]; exact List.prefix_append _ _)⟩
theorem ev_newint {n : Int32} (N : Nat) (hd : decode k.2.1 pc = .ok (.newarray .int, 2)) (hn : n = nI N) (hN : N < 2 ^ 20) (w1 : Cond.arrayClass .int ∈ tc_TB) (kk : tv_Ev G k (pc + 2) ls (.ref h.length :: st) (h ++ [(101, List.replicate N (.int 0))]) c z Q) : tv_Ev G k pc ls (.int n :: st) h (c + 1) (z + N) Q := by
  intro p l e R s m args below meth cd H locs cells slots mc ms D ct A as0 ws lsm stm I hT
  obtain ⟨w, s1, rfl, hw, hR⟩ := hT.cons
  have hw : w = .int n := hw
  subst hw
  have b1 := I.2.2.2.2.2.2.2
  have hts := I.1.2.2.2.2.2.2.1
  subst hn
  refine va_newa (atype := .int) (ty := .int) (a0 := (N, .inl (fun _ => 0))) I.1.2.1 I.1.2.2.1 (hts _ w1) rfl I.2.1.1 I.2.2.2.1.1 I.2.2.2.1.2.1 I.2.2.2.2.1 I.2.2.1 (fun _ => rfl) (nI_pos (by omega)) (nI_clamp (by omega)) (by show N * 4 ≤ _; omega) (by omega) (by omega) hd (fun q cA H1 hK hP hD hS => ?_)
  have hcA : cA = ct 1 := tv_ra (i := 4) (j := 1) hK rfl rfl
  subst hcA
  have he : tv_e ((ws ++ [(q, (.inl (ct 1, N, .inl (fun _ => (0 : Int32))) : va_E))]).map Prod.fst) ct (101, List.replicate N (.int 0)) (.inl (ct 1, N, .inl (fun _ => 0))) := ⟨1, rfl, by decide, rfl, by simp, fun i hi => by rw [List.getElem?_replicate, if_pos hi]⟩
  have I' := tv_I.push (e := (101, List.replicate N (.int 0))) I hP hD hS he
  exact kk p l e R s m args below meth cd H1 locs (cells + 1) (slots + N) mc ms D ct A as0 _ lsm _ I' ⟨⟨q, tv_last I.2.2.2.1.2.2, rfl⟩, hR.mono (by rw [List.map_append]; exact List.prefix_append _ _)⟩
theorem ev_newlong {n : Int32} (N : Nat) (hd : decode k.2.1 pc = .ok (.newarray .long, 2)) (hn : n = nI N) (hN : N < 2 ^ 20) (w1 : Cond.arrayClass .long ∈ tc_TB) (kk : tv_Ev G k (pc + 2) ls (.ref h.length :: st) (h ++ [(102, List.replicate N (.long 0))]) c z Q) : tv_Ev G k pc ls (.int n :: st) h (c + 1) (z + N) Q := by
  intro p l e R s m args below meth cd H locs cells slots mc ms D ct A as0 ws lsm stm I hT
  obtain ⟨w, s1, rfl, hw, hR⟩ := hT.cons
  have hw : w = .int n := hw
  subst hw
  have b1 := I.2.2.2.2.2.2.2
  have hts := I.1.2.2.2.2.2.2.1
  subst hn
  refine va_newa (atype := .long) (ty := .long) (a0 := (N, .inr (.inl (fun _ => 0)))) I.1.2.1 I.1.2.2.1 (hts _ w1) rfl I.2.1.1 I.2.2.2.1.1 I.2.2.2.1.2.1 I.2.2.2.2.1 I.2.2.1 (fun _ => rfl) (nI_pos (by omega)) (nI_clamp (by omega)) (by show N * 8 ≤ _; omega) (by omega) (by omega) hd (fun q cA H1 hK hP hD hS => ?_)
  have hcA : cA = ct 2 := tv_ra (i := 4) (j := 2) hK rfl rfl
  subst hcA
  have he : tv_e ((ws ++ [(q, (.inl (ct 2, N, .inr (.inl (fun _ => (0 : Int64)))) : va_E))]).map Prod.fst) ct (102, List.replicate N (.long 0)) (.inl (ct 2, N, .inr (.inl (fun _ => 0)))) := ⟨rfl, rfl, by simp, fun i hi => by rw [List.getElem?_replicate, if_pos hi]⟩
  have I' := tv_I.push (e := (102, List.replicate N (.long 0))) I hP hD hS he
  exact kk p l e R s m args below meth cd H1 locs (cells + 1) (slots + N) mc ms D ct A as0 _ lsm _ I' ⟨⟨q, tv_last I.2.2.2.1.2.2, rfl⟩, hR.mono (by rw [List.map_append]; exact List.prefix_append _ _)⟩
theorem ev_anewarray {idx : Nat} {n : Int32} (N : Nat) (hd : decode k.2.1 pc = .ok (.anewarray idx, 3)) (hn : n = nI N) (hN : N < 2 ^ 20) (w1 : Cond.classLink k.1.cls idx "TreeChanges$Entry" ∈ tc_TB) (kk : tv_Ev G k (pc + 3) ls (.ref h.length :: st) (h ++ [(103, List.replicate N .null)]) c z Q) : tv_Ev G k pc ls (.int n :: st) h (c + 1) (z + N) Q := by
  intro p l e R s m args below meth cd H locs cells slots mc ms D ct A as0 ws lsm stm I hT
  obtain ⟨w, s1, rfl, hw, hR⟩ := hT.cons
  have hw : w = .int n := hw
  subst hw
  have b1 := I.2.2.2.2.2.2.2
  have hts := I.1.2.2.2.2.2.2.1
  subst hn
  refine va_newq (C := "TreeChanges$Entry") (N' := N) I.1.2.1 I.1.2.2.1 I.1.2.2.2.2.2.1 (hts _ w1) I.2.1.2.2.1 I.2.1.1 I.2.2.2.1.1 I.2.2.2.1.2.1 I.2.2.2.2.1 I.2.2.1 (nI_pos (by omega)) (nI_clamp (by omega)) (by omega) (by omega) (by omega) hd (fun q cA H1 hK hP hD hS => ?_)
  have hcA : cA = ct 3 := tv_ra (i := 4) (j := 3) hK rfl rfl
  subst hcA
  have he : tv_e ((ws ++ [(q, (.inl (ct 3, N, .inr (.inr (.inr (.inr (fun _ => none))))) : va_E))]).map Prod.fst) ct (103, List.replicate N .null) (.inl (ct 3, N, .inr (.inr (.inr (.inr (fun _ => none)))))) := ⟨rfl, rfl, by simp, fun i hi => ⟨.null, by rw [List.getElem?_replicate, if_pos hi], rfl⟩⟩
  have I' := tv_I.push (e := (103, List.replicate N .null)) I hP hD hS he
  exact kk p l e R s m args below meth cd H1 locs (cells + 1) (slots + N) mc ms D ct A as0 _ lsm _ I' ⟨⟨q, tv_last I.2.2.2.1.2.2, rfl⟩, hR.mono (by rw [List.map_append]; exact List.prefix_append _ _)⟩
/-! ends -/
theorem tv_end {v w : Option Value} {p : Program} {l : Launch} {R : Room} {s : State} {m : MethodId} {args : Array Value} {meth : Method} {cd : Code} {H : Heap} {locs : List Loc} {cells slots mc ms : Nat} {D : va_G} {ct : Nat → ClassId} {A : Nat → Prop} {as0 : List Nat} {ws : va_W} {lsm : Array Slot}
    (I : tv_I G k ls h c z p l R s m args meth cd H locs cells slots mc ms D ct A as0 ws lsm) (hv : tv_ov (ws.map Prod.fst) v w) (hQ : Q (.inl v) h) {t : State} (ht : t.heap = H) : tv_Qc D ct A as0 Q args s (.returned w) t :=
  ⟨⟨v, w, h, ws, rfl, hv, hQ, by rw [ht]; exact I.2.2.2.1, I.2.2.2.2.2.1⟩, I.2.2.2.2.1.F ht⟩
theorem ev_ireturn {x : Int32} (hd : decode k.2.1 pc = .ok (.ireturn, 1)) (hr : k.2.2.2.1 = some .int) (hQ : Q (.inl (some (.int x))) h) : tv_Ev G k pc ls [.int x] h c z Q := by
  intro p l e R s m args below meth cd H locs cells slots mc ms D ct A as0 ws lsm stm I hT
  obtain ⟨w, s1, rfl, hw, hR⟩ := hT.cons
  have hw : w = .int x := hw
  subst hw
  cases hR.nil
  have b1 := I.2.2.2.2.2.2.2
  refine W.widen (k := mc) (n := ms) (by omega) (by omega) (vx_ret ?_)
  exact W.iret I.1.2.1 I.1.2.2.1 (I.1.2.2.2.1.trans hr) (fun t ht hW => tv_end I (v := some (.int x)) (w := some (.int x)) rfl hQ ht) I.2.2.2.2.1.2.2 hd I.1.2.2.2.2.2.2.2.1
theorem ev_zreturn {x : Int32} (hd : decode k.2.1 pc = .ok (.ireturn, 1)) (hr : k.2.2.2.1 = some .boolean) (hx : x = 0 ∨ x = 1) (hQ : Q (.inl (some (.int x))) h) : tv_Ev G k pc ls [.int x] h c z Q := by
  intro p l e R s m args below meth cd H locs cells slots mc ms D ct A as0 ws lsm stm I hT
  obtain ⟨w, s1, rfl, hw, hR⟩ := hT.cons
  have hw : w = .int x := hw
  subst hw
  cases hR.nil
  have b1 := I.2.2.2.2.2.2.2
  refine W.widen (k := mc) (n := ms) (by omega) (by omega) (vx_ret ?_)
  exact W.zret I.1.2.1 I.1.2.2.1 (I.1.2.2.2.1.trans hr) (by rcases hx with rfl | rfl <;> decide) (fun t ht hW => tv_end I (v := some (.int x)) (w := some (.int x)) rfl hQ ht) I.2.2.2.2.1.2.2 hd I.1.2.2.2.2.2.2.2.1
theorem ev_areturn {a : Nat} {C : String} (hd : decode k.2.1 pc = .ok (.areturn, 1)) (hr : k.2.2.2.1 = some (.object C)) (hQ : Q (.inl (some (.ref a))) h) : tv_Ev G k pc ls [.ref a] h c z Q := by
  intro p l e R s m args below meth cd H locs cells slots mc ms D ct A as0 ws lsm stm I hT
  obtain ⟨w, s1, rfl, ⟨q, hq, rfl⟩, hR⟩ := hT.cons
  cases hR.nil
  have b1 := I.2.2.2.2.2.2.2
  refine W.widen (k := mc) (n := ms) (by omega) (by omega) (vx_ret ?_)
  exact W.aret I.1.2.1 I.1.2.2.1 (I.1.2.2.2.1.trans hr) (Or.inl ⟨C, rfl⟩) (Or.inr ⟨q, rfl⟩) (fun t ht hW => tv_end I (v := some (.ref a)) (w := some (.ref q)) ⟨q, hq, rfl⟩ hQ ht) I.2.2.2.2.1.2.2 hd I.1.2.2.2.2.2.2.2.1
theorem ev_return (hd : decode k.2.1 pc = .ok (.return_, 1)) (hr : k.2.2.2.1 = none) (hQ : Q (.inl none) h) : tv_Ev G k pc ls [] h c z Q := by
  intro p l e R s m args below meth cd H locs cells slots mc ms D ct A as0 ws lsm stm I hT
  cases hT.nil
  have b1 := I.2.2.2.2.2.2.2
  refine W.widen (k := mc) (n := ms) (by omega) (by omega) (vx_ret ?_)
  exact W.vret I.1.2.1 I.1.2.2.1 (I.1.2.2.2.1.trans hr) (fun t ht hW => tv_end I (v := none) (w := none) trivial hQ ht) I.2.2.2.2.1.2.2 hd I.1.2.2.2.2.2.2.2.1
/-- less room is enough -/
theorem ev_room {c' z' : Nat} (hc : c' ≤ c) (hz : z' ≤ z) (kk : tv_Ev G k pc ls st h c' z' Q) : tv_Ev G k pc ls st h c z Q := by
  intro p l e R s m args below meth cd H locs cells slots mc ms D ct A as0 ws lsm stm I hT
  obtain ⟨i1, i2, i3, i4, i5, i6, i7, i8, i9, i10⟩ := I
  exact kk p l e R s m args below meth cd H locs cells slots mc ms D ct A as0 ws lsm stm ⟨i1, i2, i3, i4, i5, i6, i7, by omega, by omega, i10⟩ hT
theorem ev_post {Q' : tv_R → tv_H → Prop} (hQ : ∀ r h', Q' r h' → Q r h') (kk : tv_Ev G k pc ls st h c z Q') : tv_Ev G k pc ls st h c z Q := by
  intro p l e R s m args below meth cd H locs cells slots mc ms D ct A as0 ws lsm stm I hT T hTH X
  obtain ⟨t, a1, o, b1, b2, b3⟩ := kk p l e R s m args below meth cd H locs cells slots mc ms D ct A as0 ws lsm stm I hT T hTH X
  refine ⟨t, a1, o, b1, b2, ?_⟩
  rcases b3 with ⟨⟨⟨v, w, h', ws', e1, e2, e3, e4⟩, e5⟩, e6⟩ | ⟨q, e0, E, ce, L, ⟨⟨h', ws', e1, e2⟩, e3⟩, e4⟩
  · exact Or.inl ⟨⟨⟨v, w, h', ws', e1, e2, hQ _ _ e3, e4⟩, e5⟩, e6⟩
  · exact Or.inr ⟨q, e0, E, ce, L, ⟨⟨h', ws', hQ _ _ e1, e2⟩, e3⟩, e4⟩
end
