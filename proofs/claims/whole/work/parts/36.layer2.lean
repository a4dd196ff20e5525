/-! Layer: readItem -/
section
variable {G : tv_G} {h h' : tv_H} {a b e m : Nat} {p q p0 : List Nat} {c z : Nat} {bs cs ds cs0 : List Nat} {kd kd0 : Int32}
theorem en.put {k' : Int32} (he : en h e p kd cs) : en (h.set e (0, [.ref (e + 1), .int k', .ref (e + 3), .int (nI cs.length)])) e p k' cs := by
  obtain ⟨h1, h2, as, h3, h4⟩ := he
  exact ⟨gs_eq h1, h2.kept (gs_ne rfl (by omega)) (gs_ne rfl (by omega)), as, gs_ne h3 (by omega), h4⟩
theorem en.emp (he : en h e p kd cs) : en (h.set e (0, [.ref (e + 1), .int kd, .ref (e + 3), .int 0])) e p kd [] := by
  obtain ⟨h1, h2, as, h3, h4, h5, h6, h7⟩ := he
  exact ⟨gs_eq h1, h2.kept (gs_ne rfl (by omega)) (gs_ne rfl (by omega)), as, gs_ne h3 (by omega), h4, List.nil_prefix, h6, fun _ h => by cases h⟩
theorem l_La_readItem1 {f b4 s5 : Nat} (hl : la h a bs m) (na : ∀ d, eS e d → ¬ pS a d) (hp : p.length ≤ 19) (hb : ∀ i, i < p.length → bs[f + 2 + i]? = p[i]?) {Q : tv_R → tv_H → Prop} (hk : ∀ hc g, en hc e p kd cs → fr (eS e) h hc → tv_Ev G mm_La_readItem 83 [some (.ref a), some (.int (nI f)), some (.ref e), some (.int (nI p.length)), some (.int (nI b4)), some (.int (nI s5)), g] [] hc c z Q) : ∀ j k, j + k = p.length → ∀ hc, en hc e (p.take k) kd cs → fr (eS e) h hc → tv_Ev G mm_La_readItem 54 [some (.ref a), some (.int (nI f)), some (.ref e), some (.int (nI p.length)), some (.int (nI b4)), some (.int (nI s5)), some (.int (nI k))] [] hc c z Q := by
  intro j
  have hlen := hl.len
  induction j with
  | zero =>
    intro k hi hc ht hf
    have hi : k = p.length := by omega
    subst hi
    rw [List.take_length] at ht
    refine e_La_readItem_54 rfl ?_
    refine e_La_readItem_56 rfl ?_
    refine e_La_readItem_57 (fun _ => ?_) (fun c1 => absurd (nI_le (Nat.le_refl _) (by omega)) c1)
    exact hk hc _ ht hf
  | succ j ih =>
    intro k hi hc ht hf
    have hl' := hl.kept hf (fun q => na _ q (Or.inl rfl)) (fun q => na _ q (Or.inr rfl))
    obtain ⟨_, i1, -, -, -, -, h256⟩ := id hl'
    obtain ⟨_, i2, -⟩ := id ht.2.1
    have hei : p[k]? = some p[k] := List.getElem?_eq_getElem (by omega)
    have hbk := (hb k (by omega)).trans hei
    have hbl := (List.getElem?_eq_some_iff.mp hbk).1
    have hlt := h256 _ (List.mem_of_getElem? hbk)
    refine e_La_readItem_54 rfl ?_
    refine e_La_readItem_56 rfl ?_
    refine e_La_readItem_57 (fun c1 => absurd c1 (nI_ge (by omega) (by omega))) (fun _ => ?_)
    refine e_La_readItem_60 rfl ?_
    refine e_La_readItem_61 ht.1 rfl ?_
    refine e_La_readItem_64 rfl ?_
    refine e_La_readItem_65 rfl ?_
    refine e_La_readItem_66  ?_
    refine e_La_readItem_67  ?_
    refine e_La_readItem_68 rfl ?_
    refine e_La_readItem_70  ?_
    rw [nI_2, nI_add]
    refine e_La_readItem_71 i1 (Nat.le_of_ble_eq_true rfl) (c_La_byteAt hl' (by omega)) (kp ?_) xn
    rw [lb_at hbk]
    refine e_La_readItem_74 i2 (by decide) (c_Pa_append ht.2.1 hlt (by rw [List.length_take]; omega)) (kn ?_) xn
    rintro hd ⟨pd, fd⟩
    rw [← take_g hei] at pd
    have := ih (k + 1) (by omega) hd (en.path ht pd fd) (hf.tr (fd.mono (by rintro d (q | q) <;> exact ⟨by omega, by omega⟩)))
    rw [nI_succ] at this
    refine e_La_readItem_77 rfl ?_
    refine e_La_readItem_80  ?_
    exact this
theorem l_La_readItem2 {f b4 s3 : Nat} (hl : la h a bs m) (na : ∀ d, eS e d → ¬ pS a d) (hp : ds.length ≤ 16) (hb : ∀ i, i < ds.length → bs[b4 + 2 + i]? = ds[i]?) {Q : tv_R → tv_H → Prop} (hk : ∀ hc g, en hc e p kd ds → fr (eS e) h hc → tv_Ev G mm_La_readItem 119 [some (.ref a), some (.int (nI f)), some (.ref e), some (.int (nI s3)), some (.int (nI b4)), some (.int (nI ds.length)), g] [] hc c z Q) : ∀ j k, j + k = ds.length → ∀ hc, en hc e p kd (ds.take k) → fr (eS e) h hc → tv_Ev G mm_La_readItem 91 [some (.ref a), some (.int (nI f)), some (.ref e), some (.int (nI s3)), some (.int (nI b4)), some (.int (nI ds.length)), some (.int (nI k))] [] hc c z Q := by
  intro j
  have hlen := hl.len
  induction j with
  | zero =>
    intro k hi hc ht hf
    have hi : k = ds.length := by omega
    subst hi
    rw [List.take_length] at ht
    refine e_La_readItem_91 rfl ?_
    refine e_La_readItem_93 rfl ?_
    refine e_La_readItem_95 (fun _ => ?_) (fun c1 => absurd (nI_le (Nat.le_refl _) (by omega)) c1)
    exact hk hc _ ht hf
  | succ j ih =>
    intro k hi hc ht hf
    have hl' := hl.kept hf (fun q => na _ q (Or.inl rfl)) (fun q => na _ q (Or.inr rfl))
    obtain ⟨_, i1, -, -, -, -, h256⟩ := id hl'
    have hei : ds[k]? = some ds[k] := List.getElem?_eq_getElem (by omega)
    have hbk := (hb k (by omega)).trans hei
    have hbl := (List.getElem?_eq_some_iff.mp hbk).1
    have hlt := h256 _ (List.mem_of_getElem? hbk)
    refine e_La_readItem_91 rfl ?_
    refine e_La_readItem_93 rfl ?_
    refine e_La_readItem_95 (fun c1 => absurd c1 (nI_ge (by omega) (by omega))) (fun _ => ?_)
    refine e_La_readItem_98 rfl ?_
    refine e_La_readItem_99 rfl ?_
    refine e_La_readItem_100 rfl ?_
    refine e_La_readItem_102  ?_
    refine e_La_readItem_103  ?_
    refine e_La_readItem_104 rfl ?_
    refine e_La_readItem_106  ?_
    rw [nI_2, nI_add]
    refine e_La_readItem_107 i1 (Nat.le_of_ble_eq_true rfl) (c_La_byteAt hl' (by omega)) (kp ?_) xn
    rw [lb_at hbk]
    refine e_La_readItem_110 ht.1 (by decide) (c_En_append ht hlt (by rw [List.length_take]; omega)) (kn ?_) xn
    rintro hd ⟨pd, fd⟩
    rw [← take_g hei] at pd
    have := ih (k + 1) (by omega) hd pd (hf.tr fd)
    rw [nI_succ] at this
    refine e_La_readItem_113 rfl ?_
    refine e_La_readItem_116  ?_
    exact this
theorem or8 : ∀ n, n < 17 → nI n ||| (nI 0 <<< ((8 : Int32) &&& 31)) = nI n := by decide +kernel
theorem c_La_readItem {x : tI} {f : Nat} {rest : List Nat} (hl : la h a bs m) (he : en h e p0 kd0 cs0) (na : ∀ d, eS e d → ¬ pS a d) (hb : bs.drop f = itb x ++ rest) (hp : x.2.1.length ≤ 19) (hd : x.2.2.length ≤ 16) : tv_Ct G mm_La_readItem [.ref a, .int (nI f), .ref e] h 0 0 (rv (.int (nI (f + (itb x).length))) (fun h' => en h' e x.2.1 (nI x.1) x.2.2 ∧ fr (eS e) h h')) := by
  obtain ⟨w, p, ds⟩ := x
  have hlen := hl.len
  have hlb : f + (itb (w, p, ds)).length ≤ bs.length := by
    have := congrArg List.length hb
    rw [List.length_drop, List.length_append, itb_len] at this
    rw [itb_len]
    omega
  rw [itb_len] at hlb ⊢
  simp only at hp hd hlb ⊢
  have at_ : ∀ i, bs[f + i]? = (itb (w, p, ds) ++ rest)[i]? := fun i => by rw [← hb, List.getElem?_drop]
  have a0 : bs[f]? = some w := at_ 0
  have a1 : bs[f + 1]? = some p.length := at_ 1
  have e1 : itb (w, p, ds) ++ rest = w :: p.length :: (p ++ (ds.length :: 0 :: (ds ++ rest))) := by unfold itb; simp
  have at2 : ∀ i, bs[f + 2 + i]? = (p ++ (ds.length :: 0 :: (ds ++ rest)))[i]? := by
    intro i
    rw [show f + 2 + i = f + (i + 1 + 1) by omega, at_, e1, List.getElem?_cons_succ, List.getElem?_cons_succ]
  have at3 : ∀ i, bs[f + 2 + p.length + i]? = (ds.length :: 0 :: (ds ++ rest))[i]? := by
    intro i
    rw [show f + 2 + p.length + i = f + 2 + (p.length + i) by omega, at2, List.getElem?_append_right (by omega), Nat.add_sub_cancel_left]
  have a2 : bs[f + 2 + p.length]? = some ds.length := at3 0
  have a3 : bs[f + 2 + p.length + 1]? = some 0 := at3 1
  have bp : ∀ i, i < p.length → bs[f + 2 + i]? = p[i]? := fun i hi => by rw [at2, List.getElem?_append_left hi]
  have bd : ∀ i, i < ds.length → bs[f + 2 + p.length + 2 + i]? = ds[i]? := fun i hi => by
    rw [show f + 2 + p.length + 2 + i = f + 2 + p.length + (i + 1 + 1) by omega, at3, List.getElem?_cons_succ, List.getElem?_cons_succ, List.getElem?_append_left hi]
  obtain ⟨_, i1, -⟩ := id hl
  have ki : ∀ {h'}, fr (eS e) h h' → la h' a bs m := fun hf => hl.kept hf (fun q => na _ q (Or.inl rfl)) (fun q => na _ q (Or.inr rfl))
  refine tv_ct rfl (by decide +kernel) (by simp [Value.category]) (Nat.le_of_ble_eq_true rfl) ?_
  refine e_La_readItem_0 rfl ?_
  refine e_La_readItem_1 rfl ?_
  refine e_La_readItem_2  ?_
  refine e_La_readItem_3  ?_
  rw [nI_1]
  refine e_La_readItem_4 i1 (by decide) (c_La_byteAt hl (by omega)) (kp ?_) xn
  rw [lb_at a1]
  refine e_La_readItem_7 (Nat.le_of_ble_eq_true rfl) ?_
  refine e_La_readItem_8 rfl ?_
  refine e_La_readItem_9  ?_
  refine e_La_readItem_10  ?_
  refine e_La_readItem_11 rfl ?_
  refine e_La_readItem_12  ?_
  refine e_La_readItem_13 (Nat.le_of_ble_eq_true rfl) ?_
  refine e_La_readItem_15 rfl ?_
  refine e_La_readItem_16 rfl ?_
  rw [nI_2, nI_add]
  refine e_La_readItem_18 i1 (by decide) (c_La_byteAt hl (by omega)) (kp ?_) xn
  rw [lb_at a2]
  refine e_La_readItem_21 rfl ?_
  refine e_La_readItem_22 rfl ?_
  refine e_La_readItem_24  ?_
  refine e_La_readItem_25  ?_
  rw [nI_1]
  refine e_La_readItem_26 i1 (Nat.le_of_ble_eq_true rfl) (c_La_byteAt hl (by omega)) (kp ?_) xn
  rw [lb_at a3]
  refine e_La_readItem_29  ?_
  refine e_La_readItem_31  ?_
  refine e_La_readItem_32  ?_
  refine e_La_readItem_33 (Nat.le_of_ble_eq_true rfl) ?_
  refine e_La_readItem_35 rfl ?_
  refine e_La_readItem_36 rfl ?_
  refine e_La_readItem_37 rfl ?_
  rw [or8 _ (by omega)]
  refine e_La_readItem_38 i1 (Nat.le_of_ble_eq_true rfl) (c_La_byteAt hl (by omega)) (kp ?_) xn
  rw [lb_at a0]
  refine e_La_readItem_41 he.1 (Nat.le_of_ble_eq_true rfl) ?_
  refine e_La_readItem_44 rfl ?_
  have f1 : fr (eS e) h (h.set e (0, [.ref (e + 1), .int (nI w), .ref (e + 3), .int (nI cs0.length)])) := fr.set ⟨by omega, by omega⟩
  have e2 := he.put (k' := nI w)
  obtain ⟨_, i2, -⟩ := id e2.2.1
  refine e_La_readItem_45 e2.1 rfl ?_
  refine e_La_readItem_48 i2 (by decide) (c_Pa_clear e2.2.1) (kn ?_) xn
  rintro h3 ⟨p3, f3⟩
  have e3 := en.path e2 p3 (f3.mono (fun _ q => Or.inl q))
  have f3' : fr (eS e) h h3 := f1.tr (f3.mono (by rintro d rfl; exact ⟨by omega, by omega⟩))
  refine e_La_readItem_51  ?_
  refine e_La_readItem_52 (Nat.le_of_ble_eq_true rfl) ?_
  refine l_La_readItem1 (ki f3') na hp bp (fun h4 g e4 f4 => ?_) p.length 0 rfl h3 e3 fr.rf
  refine e_La_readItem_83 rfl ?_
  refine e_La_readItem_84  ?_
  refine e_La_readItem_85 e4.1 (Nat.le_of_ble_eq_true rfl) ?_
  refine e_La_readItem_88  ?_
  refine e_La_readItem_89 (Nat.le_of_ble_eq_true rfl) ?_
  have e5 := e4.emp
  have f5 : fr (eS e) h (h4.set e (0, [.ref (e + 1), .int (nI w), .ref (e + 3), .int 0])) := (f3'.tr f4).tr (fr.set ⟨by omega, by omega⟩)
  refine l_La_readItem2 (ki f5) na hd bd (fun h6 g e6 f6 => ?_) ds.length 0 rfl _ e5 fr.rf
  refine e_La_readItem_119 rfl ?_
  refine e_La_readItem_121  ?_
  refine e_La_readItem_122  ?_
  refine e_La_readItem_123 rfl ?_
  refine e_La_readItem_125  ?_
  rw [nI_2, nI_add]
  exact e_La_readItem_126 ⟨by rw [show f + 2 + p.length + 2 + ds.length = f + (4 + p.length + ds.length) by omega], e6, f5.tr f6⟩
end
