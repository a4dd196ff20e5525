/-! a contract out of a walk; System.arraycopy of bytes, Math.max; a law's start -/
theorem tv_args_mem {as : List Nat} : ∀ {vs ws : List Value} (j : Nat), tv_vs as vs ws → (∀ v ∈ vs, v.category = 1) → ∀ i v, vs[i]? = some v → ∃ w, tv_v as v w ∧ w.category = 1 ∧ (j + i, w) ∈ lv_args j ws
  | [], [], j, _, _, i, v, hi => by simp at hi
  | a :: vs, b :: ws, j, h, hc, i, v, hi => by
    have hb : b.category = 1 := h.1.cat.trans (hc a List.mem_cons_self)
    cases i with
    | zero =>
      simp at hi
      subst hi
      exact ⟨b, h.1, hb, List.mem_cons_self⟩
    | succ i =>
      rw [List.getElem?_cons_succ] at hi
      obtain ⟨w, h1, h2, h3⟩ := tv_args_mem (j + 1) h.2 (fun v hv => hc v (List.mem_cons_of_mem _ hv)) i v hi
      refine ⟨w, h1, h2, ?_⟩
      show (j + (i + 1), w) ∈ (j, b) :: lv_args (if b.category = 2 then j + 2 else j + 1) ws
      rw [if_neg (by rw [hb]; decide)]
      refine List.mem_cons_of_mem _ ?_
      rw [show j + (i + 1) = j + 1 + i by omega]
      exact h3
theorem tv_sl_len {as : List Nat} : ∀ {vs ws : List Value}, tv_vs as vs ws → (∀ v ∈ vs, v.category = 1) → (lg_sl ws).length = vs.length
  | [], [], _, _ => rfl
  | a :: vs, b :: ws, h, hc => by
    have hb : b.category = 1 := h.1.cat.trans (hc a List.mem_cons_self)
    have ih := tv_sl_len h.2 (fun v hv => hc v (List.mem_cons_of_mem _ hv))
    unfold lg_sl at ih ⊢
    rw [List.flatMap_cons, List.length_append, ih, if_neg (by rw [hb]; decide)]
    simp; omega
theorem tv_L.entry {as : List Nat} {vs ws : List Value} {n : Nat} (h : tv_vs as vs ws) (hc : ∀ v ∈ vs, v.category = 1) (hn : vs.length ≤ n) : tv_L as (vs.map some ++ List.replicate (n - vs.length) none) ((lg_sl ws ++ List.replicate (n - (lg_sl ws).length) Slot.unset).toArray) n := by
  refine ⟨by simp; omega, lv_args 0 ws, lv_entry ws (by rw [tv_sl_len h hc]; exact hn), fun i v hi => ?_⟩
  rw [List.getElem?_append] at hi
  split at hi
  · rw [List.getElem?_map] at hi
    cases hv : vs[i]? with
    | none => rw [hv] at hi; cases hi
    | some u =>
      rw [hv] at hi
      have hi : u = v := Option.some.inj (Option.some.inj hi)
      subst hi
      have h1 := tv_args_mem 0 h hc i u hv
      rw [Nat.zero_add] at h1
      exact h1
  · rw [List.getElem?_replicate] at hi
    split at hi <;> cases hi
section
variable {G : tv_G} {k : tv_M} {pc : Nat} {ls : List (Option Value)} {st : List Value} {h : tv_H} {c z : Nat} {Q : tv_R → tv_H → Prop}
theorem tv_ct {vs : List Value} {mc ms : Nat} (hh : k.2.2.2.2.1 = []) (hpl : plainName k.1.cls = true) (hc : ∀ v ∈ vs, v.category = 1) (hn : vs.length ≤ k.2.2.1) (hev : tv_Ev G k 0 (vs.map some ++ List.replicate (k.2.2.1 - vs.length) none) [] h mc ms Q) : tv_Ct G k vs h mc ms Q := by
  intro l hl D ct ws vm sz hvm
  refine vx_ofW (cc := k.2.1) (maxL := k.2.2.1) (ret := k.2.2.2.1) hpl (by rw [tv_hw0 hh]) ?_
  intro p e s m args below meth cd s₁ B hml ht hv
  obtain ⟨rfl, hsz, hW, hS⟩ := hv
  subst hsz
  have hts := atoms_spec (ws := tv_hw k :: tc_TB) B.pre
  rw [lg_entry_eq]
  refine hev p l e _ s m _ below meth cd s.heap [] 0 0 mc ms D ct (va_A ws s.heap.size) (ws.map Prod.fst) ws _ [] ⟨⟨hl, B.exec, B.bytes, B.returns, hml, findClass_of_methodNamed B.named, fun w hw => hts w (List.mem_cons_of_mem _ hw), B.notSynchronized, ?_, (name_of_methodNamed B.named B.method).1, Nat.le_refl _, Nat.le_refl _⟩, hS, fun q hq => Or.inr hq, ⟨hW.1, hW.2.1.self, hW.2.2⟩, va_S.rf, List.prefix_refl _, tv_L.entry hvm hc hn, by omega, by omega, Nat.le_refl _, Nat.le_refl _⟩ trivial
  rw [hh]
  exact List.eq_nil_iff_forall_not_mem.mpr (fun x hx => ht x hx)
theorem tv_ctH {vs : List Value} {mc ms : Nat} (hh : k.2.2.2.2.1 ≠ []) (hpl : plainName k.1.cls = true) (hc : ∀ v ∈ vs, v.category = 1) (hn : vs.length ≤ k.2.2.1) (hev : tv_Ev G k 0 (vs.map some ++ List.replicate (k.2.2.1 - vs.length) none) [] h mc ms Q) : tv_Ct G k vs h mc ms Q := by
  intro l hl D ct ws vm sz hvm
  refine vx_ofWH (cc := k.2.1) (maxL := k.2.2.1) (ret := k.2.2.2.1) (hh := k.2.2.2.2.1) hpl (by rw [tv_hw1 hh]) ?_
  intro p e s m args below meth cd s₁ B hml hv
  obtain ⟨rfl, hsz, hW, hS⟩ := hv
  subst hsz
  have hts := atoms_spec (ws := tv_hw k :: tc_TB) B.pre
  rw [lg_entry_eq]
  refine hev p l e _ s m _ below meth cd s.heap [] 0 0 mc ms D ct (va_A ws s.heap.size) (ws.map Prod.fst) ws _ [] ⟨⟨hl, B.exec, B.bytes, B.returns, hml, findClass_of_methodNamed B.named, fun w hw => hts w (List.mem_cons_of_mem _ hw), B.notSynchronized, ?_, (name_of_methodNamed B.named B.method).1, Nat.le_refl _, Nat.le_refl _⟩, hS, fun q hq => Or.inr hq, ⟨hW.1, hW.2.1.self, hW.2.2⟩, va_S.rf, List.prefix_refl _, tv_L.entry hvm hc hn, by omega, by omega, Nat.le_refl _, Nat.le_refl _⟩ trivial
  have h1 := hts _ (List.mem_cons_self (a := tv_hw k) (l := tc_TB))
  rw [tv_hw1 hh] at h1
  exact vx_table (x := k.1) B h1
theorem ct_post {vs : List Value} {mc ms : Nat} {Q' : tv_R → tv_H → Prop} (hQ : ∀ r h', Q' r h' → Q r h') (hct : tv_Ct G k vs h mc ms Q') : tv_Ct G k vs h mc ms Q := by
  intro l hl D ct ws vm sz hvm p e ha hc hk s m args below hf happ hP hK
  obtain ⟨n, o, a1, a2, a3, b3⟩ := hct l hl D ct ws vm sz hvm p e ha hc hk s m args below hf happ hP hK
  refine ⟨n, o, a1, a2, a3, ?_⟩
  rcases b3 with ⟨⟨⟨v, w, h', ws', e1, e2, e3, e4⟩, e5⟩, e6⟩ | ⟨q, e0, E, ce, L, ⟨⟨h', ws', e1, e2⟩, e3⟩, e4⟩
  · exact Or.inl ⟨⟨⟨v, w, h', ws', e1, e2, hQ _ _ e3, e4⟩, e5⟩, e6⟩
  · exact Or.inr ⟨q, e0, E, ce, L, ⟨⟨h', ws', hQ _ _ e1, e2⟩, e3⟩, e4⟩
/-- Math.max -/
theorem ev_max {idx : Nat} {x y : Int32} (hd : decode k.2.1 pc = .ok (.invokestatic idx, 3)) (w1 : Cond.methodLink k.1.cls idx Lib.Math.max.name ∈ tc_TB) (w2 : Cond.static Lib.Math.max.name ∈ tc_TB) (w3 : Cond.initialized "java/lang/Math" ∈ tc_TB) (w4 : Cond.code Lib.Math.max.name Lib.Math.max.code 2 (some .int) ∈ tc_TB) (hfr : 1 ≤ k.2.2.2.2.2.1) (hlc : (st.map fun v => v.category).sum + 13 ≤ k.2.2.2.2.2.2)
    (kk : tv_Ev G k (pc + 3) ls (.int (if x < y then y else x) :: st) h c z Q) : tv_Ev G k pc ls (.int y :: .int x :: st) h c z Q := by
  intro p l e R s m args below meth cd H locs cells slots mc ms D ct A as0 ws lsm stm I hT
  obtain ⟨w1', s1, rfl, e1, hR⟩ := hT.cons
  obtain ⟨w2', s2, rfl, e2, hR2⟩ := hR.cons
  have e1 : w1' = .int y := e1
  have e2 : w2' = .int x := e2
  subst e1; subst e2
  have hts := I.1.2.2.2.2.2.2.1
  have b1 := I.2.2.2.2.2.2.2
  have r1 := I.1.2.2.2.2.2.2.2.2.2.2.1
  have r2 := I.1.2.2.2.2.2.2.2.2.2.2.2
  obtain ⟨h0, lv, h1, -⟩ := id I.2.2.2.2.2.2.1
  exact va_mmax I.1.2.1 I.1.2.2.1 (I.1.2.2.2.2.1.trans h1.1.symm) I.1.2.2.2.2.2.1 (hts _ w1) (hts _ w2) (hts _ w3) (hts _ w4) (by omega) (by rw [hR2.cats]; omega) (by omega) (by omega) hd (kk p l e R s m args below meth cd H locs cells slots mc ms D ct A as0 ws lsm _ I ⟨rfl, hR2⟩)
/-- n values of fs from sp on, into gs from dp on -/
def tv_cpy (fs gs : List Value) (sp dp n : Nat) : List Value := gs.take dp ++ (fs.drop sp).take n ++ gs.drop (dp + n)
/-- System.arraycopy of bytes -/
theorem ev_copyb {idx a b : Nat} {fs gs : List Value} {isp idp inn : Int32} (sp dp n : Nat) (hd : decode k.2.1 pc = .ok (.invokestatic idx, 3)) (w1 : Cond.methodLink k.1.cls idx arraycopyName ∈ tc_TB) (w2 : Cond.native arraycopyName ∈ tc_TB) (w3 : Cond.static arraycopyName ∈ tc_TB) (w4 : Cond.initialized "java/lang/System" ∈ tc_TB)
    (ha : h[a]? = some (100, fs)) (hb : h[b]? = some (100, gs)) (h1 : isp = nI sp) (h2 : idp = nI dp) (h3 : inn = nI n) (h4 : sp + n ≤ fs.length) (h5 : dp + n ≤ gs.length) (hl1 : fs.length < 2 ^ 31) (hl2 : gs.length < 2 ^ 31) (hfit : ∀ v ∈ fs, fits .byte v = true)
    (hfr : 1 ≤ k.2.2.2.2.2.1) (hlc : (st.map fun v => v.category).sum + 18 ≤ k.2.2.2.2.2.2) (kk : tv_Ev G k (pc + 3) ls st (h.set b (100, tv_cpy fs gs sp dp n)) c z Q) : tv_Ev G k pc ls (.int inn :: .int idp :: .ref b :: .int isp :: .ref a :: st) h c z Q := by
  intro p l e R s m args below meth cd H locs cells slots mc ms D ct A as0 ws lsm stm I hT
  obtain ⟨x1, s1, rfl, e1, hR1⟩ := hT.cons
  obtain ⟨x2, s2, rfl, e2, hR2⟩ := hR1.cons
  obtain ⟨x3, s3, rfl, ⟨qb, hqb, rfl⟩, hR3⟩ := hR2.cons
  obtain ⟨x4, s4, rfl, e4, hR4⟩ := hR3.cons
  obtain ⟨x5, s5, rfl, ⟨qa, hqa, rfl⟩, hR5⟩ := hR4.cons
  have e1 : x1 = .int inn := e1
  have e2 : x2 = .int idp := e2
  have e4 : x4 = .int isp := e4
  subst e1; subst e2; subst e4; subst h1; subst h2; subst h3
  have hts := I.1.2.2.2.2.2.2.1
  have r1 := I.1.2.2.2.2.2.2.2.2.2.2.1
  have r2 := I.1.2.2.2.2.2.2.2.2.2.2.2
  obtain ⟨h0, lv, hlv, -⟩ := id I.2.2.2.2.2.2.1
  obtain ⟨xa, hxa, hea⟩ := I.2.2.2.1.at ha hqa
  obtain ⟨f, rfl, hf⟩ := tv_e.ints (t := 0) hea (by decide)
  obtain ⟨xb, hxb, heb⟩ := I.2.2.2.1.at hb hqb
  obtain ⟨g, rfl, hg⟩ := tv_e.ints (t := 0) heb (by decide)
  have c1 : (nI sp).toNatClampNeg = sp := nI_clamp (by omega)
  have c2 : (nI dp).toNatClampNeg = dp := nI_clamp (by omega)
  have c3 : (nI n).toNatClampNeg = n := nI_clamp (by omega)
  refine va_copyi I.1.2.1 I.1.2.2.1 (I.1.2.2.2.2.1.trans hlv.1.symm) I.1.2.2.2.2.2.1 (hts _ w1) (hts _ w2) (hts _ w3) (hts _ w4) I.2.1.1 I.2.2.2.1.1 I.2.2.2.1.2.1 I.2.2.2.2.1 a b 0 0 hxa hxb rfl rfl rfl (nI_pos (by omega)) (nI_pos (by omega)) (nI_pos (by omega)) (by rw [c1, c3]; exact h4) (by rw [c2, c3]; exact h5) (fun i hi => ?_) (by omega) (by rw [hR5.cats]; show _ + (7 + 11) ≤ _; omega) hd (fun H1 locs1 hP hD hS => ?_)
  · rw [c3] at hi
    rw [c1]
    exact hfit _ (List.mem_of_getElem? (hf (sp + i) (by omega)))
  · rw [c1, c2, c3] at hP hD
    have he' : tv_e (ws.map Prod.fst) ct (100, tv_cpy fs gs sp dp n) (.inl (ct 0, gs.length, .inl (va_cpy f g sp dp n))) := by
      refine ⟨0, rfl, by decide, rfl, ?_, fun i hi => ?_⟩
      · simp [tv_cpy]; omega
      · show (tv_cpy fs gs sp dp n)[i]? = _
        unfold tv_cpy
        by_cases q1 : i < dp
        · rw [List.append_assoc, List.getElem?_append_left (by simp; omega), List.getElem?_take_of_lt q1, hg i hi, pk_cpy_out (Or.inl q1)]
        · by_cases q2 : i < dp + n
          · rw [List.getElem?_append_left (by simp; omega), List.getElem?_append_right (by simp; omega), List.getElem?_take_of_lt (by simp; omega), List.getElem?_drop, pk_cpy_in (by omega) q2]
            rw [show (gs.take dp).length = dp by simp; omega]
            exact hf _ (by omega)
          · rw [List.getElem?_append_right (by simp; omega), List.getElem?_drop, pk_cpy_out (Or.inr (by omega))]
            rw [show dp + n + (i - (gs.take dp ++ (fs.drop sp).take n).length) = i by simp; omega]
            exact hg i hi
    exact kk p l e R s m args below meth cd H1 locs1 cells slots mc ms D ct A as0 _ lsm _ (I.heap hP hD hS (tv_fst_set hxb) (tv_hs.set he' I.2.2.2.1.2.2)) (by rw [tv_fst_set hxb]; exact hR5)
end
