/-! Layer: bytes, items -/
/-- a Layer at a: its bytes, how many items -/
def la (h : tv_H) (a : Nat) (bs : List Nat) (m : Nat) : Prop := ∃ as : List Int32, h[a]? = some (1, [.ref (a + 1), .int (nI bs.length), .int (nI m)]) ∧ h[a + 1]? = some (100, as.map Value.int) ∧ as.length = 2480 ∧ bs.map sb_b <+: as ∧ (∀ b ∈ as, fits .byte (.int b) = true) ∧ ∀ c ∈ bs, c < 256
/-- an item: kind, path, bytes -/
abbrev tI : Type := Nat × List Nat × List Nat
def itb (x : tI) : List Nat := x.1 :: x.2.1.length :: (x.2.1 ++ (x.2.2.length :: 0 :: x.2.2))
theorem itb_len (x : tI) : (itb x).length = 4 + x.2.1.length + x.2.2.length := by
  unfold itb
  simp
  omega
theorem la.kept {h h' : tv_H} {a : Nat} {bs : List Nat} {m : Nat} {S : Nat → Prop} (hl : la h a bs m) (hf : fr S h h') (h1 : ¬ S a) (h2 : ¬ S (a + 1)) : la h' a bs m := by
  obtain ⟨as, g1, g2, g3⟩ := hl
  exact ⟨as, (hf.2 _ h1).trans g1, (hf.2 _ h2).trans g2, g3⟩
theorem la.len {h : tv_H} {a : Nat} {bs : List Nat} {m : Nat} (hl : la h a bs m) : bs.length ≤ 2480 := by
  obtain ⟨as, -, -, h3, h4, -⟩ := hl
  have h5 := h4.length_le
  rw [List.length_map] at h5
  omega
/-- the byte at k, or 0 -/
def lb (bs : List Nat) (k : Nat) : Int32 := match bs[k]? with
  | some c => nI c
  | none => 0
theorem lb_ge {cs : List Nat} {k : Nat} (h : cs.length ≤ k) : lb cs k = 0 := by
  unfold lb
  rw [List.getElem?_eq_none h]
theorem lb_at {cs : List Nat} {k c : Nat} (h : cs[k]? = some c) : lb cs k = nI c := by
  unfold lb
  rw [h]
theorem nI_2 (k : Nat) : nI k + 2 = nI (k + 2) := nI_add k 2
section
variable {G : tv_G} {h h' : tv_H} {a b e m : Nat} {p q : List Nat} {c z : Nat} {bs cs ds : List Nat} {kd : Int32}
theorem c_La_byteAt (hl : la h a bs m) {k : Nat} (hk : k < 2 ^ 31) : tv_Ct G mm_La_byteAt [.ref a, .int (nI k)] h 0 0 (rv (.int (lb bs k)) (fun h' => h' = h)) := by
  have hlen := hl.len
  obtain ⟨as, h1, h2, h3, h4, h5, h6⟩ := hl
  refine tv_ct rfl (by decide +kernel) (by simp [Value.category]) (Nat.le_of_ble_eq_true rfl) ?_
  refine e_La_byteAt_0 rfl ?_
  refine e_La_byteAt_1 (fun c1 => absurd c1 (nI_pos hk)) (fun _ => ?_)
  refine e_La_byteAt_4 rfl ?_
  refine e_La_byteAt_5 rfl ?_
  refine e_La_byteAt_6 h1 rfl ?_
  refine e_La_byteAt_9 (fun c1 => ?_) (fun c1 => ?_)
  · refine e_La_byteAt_32  ?_
    exact e_La_byteAt_33 ⟨by rw [lb_ge ((nI_leI (by omega) hk).mp c1)], rfl⟩
  · have hlt : k < bs.length := by
      rcases Nat.lt_or_ge k bs.length with h9 | h9
      · exact h9
      · exact absurd (nI_le h9 hk) c1
    obtain ⟨d, hd⟩ : ∃ d, bs[k]? = some d := ⟨_, List.getElem?_eq_getElem hlt⟩
    refine e_La_byteAt_12 rfl ?_
    refine e_La_byteAt_13  ?_
    refine e_La_byteAt_16 (fun c2 => absurd c2 (nI_ge (b := 2480) (by omega) (by decide))) (fun _ => ?_)
    refine e_La_byteAt_19 rfl ?_
    refine e_La_byteAt_20 h1 rfl ?_
    refine e_La_byteAt_23 rfl ?_
    refine e_La_byteAt_24 k h2 rfl (pre_get h4 hd) (by simp; omega) ?_
    refine e_La_byteAt_25  ?_
    refine e_La_byteAt_28  ?_
    refine e_La_byteAt_29  ?_
    exact e_La_byteAt_33 ⟨by rw [lb_at hd, s8_and (h6 d (List.mem_of_getElem? hd))], rfl⟩
theorem c_La_append (hl : la h a bs m) {x : Nat} (hx : x < 256) (hn : bs.length < 2480) : tv_Ct G mm_La_append [.ref a, .int (nI x)] h 0 0 (rn (fun h' => la h' a (bs ++ [x]) m ∧ fr (pS a) h h')) := by
  obtain ⟨as, h1, h2, h3, h4, h5, h6⟩ := hl
  refine tv_ct rfl (by decide +kernel) (by simp [Value.category]) (Nat.le_of_ble_eq_true rfl) ?_
  refine e_La_append_0 rfl ?_
  refine e_La_append_1 h1 rfl ?_
  refine e_La_append_4  ?_
  refine e_La_append_7 (fun c2 => absurd c2 (nI_ge (b := 2480) (by omega) (by decide))) (fun _ => ?_)
  refine e_La_append_10 rfl ?_
  refine e_La_append_11 h1 rfl ?_
  refine e_La_append_14 rfl ?_
  refine e_La_append_15 h1 rfl ?_
  refine e_La_append_18 rfl ?_
  refine e_La_append_19  ?_
  refine e_La_append_20 bs.length h2 rfl (by simp; omega) (by simp; omega) ?_
  rw [i8i8]
  have g1 : (h.set (a + 1) (100, (as.map Value.int).set bs.length (.int (nI x).toInt8.toInt32)))[a]? = some (1, [.ref (a + 1), .int (nI bs.length), .int (nI m)]) := gs_ne h1 (by omega)
  refine e_La_append_21 rfl ?_
  refine e_La_append_22 rfl ?_
  refine e_La_append_23 g1 rfl ?_
  refine e_La_append_26  ?_
  refine e_La_append_27  ?_
  refine e_La_append_28 g1 (Nat.le_of_ble_eq_true rfl) ?_
  refine e_La_append_31 ⟨rfl, ⟨as.set bs.length (sb_b x), ?_, ?_, by simpa using h3, ?_, ?_, ?_⟩, (fr.set (Or.inr rfl)).tr (fr.set (Or.inl rfl))⟩
  · rw [gs_eq g1]
    rw [List.length_append]
    show some (1, [Value.ref (a + 1), Value.int (nI bs.length + 1), Value.int (nI m)]) = _
    rw [nI_1]
    rfl
  · refine gs_ne ?_ (by omega)
    rw [gs_eq h2, List.map_set]
    rfl
  · obtain ⟨t, rfl⟩ := h4
    cases t with
    | nil => simp at h3; omega
    | cons u t =>
      refine ⟨t, ?_⟩
      rw [List.set_append_right _ _ (by simp)]
      simp
  · intro b hb
    rcases List.mem_or_eq_of_mem_set hb with h9 | h9
    · exact h5 b h9
    · rw [h9]; exact sb_fitB x
  · intro d hd
    rcases List.mem_append.mp hd with h9 | h9
    · exact h6 d h9
    · rw [List.mem_singleton.mp h9]; exact hx
theorem l_La_writeItem1 {w : Nat} {s : Int32} (he : en h e p kd cs) (sp : sm p) (na : ∀ d, eS e d → ¬ pS a d) (hl : bs.length + p.length ≤ 2480) {Q : tv_R → tv_H → Prop} (hk : ∀ hc, la hc a (bs ++ p) m → fr (pS a) h hc → tv_Ev G mm_La_writeItem 64 [some (.ref a), some (.int (nI w)), some (.ref e), some (.int s), some (.int (nI p.length))] [] hc c z Q) : ∀ j k, j + k = p.length → ∀ hc, la hc a (bs ++ p.take k) m → fr (pS a) h hc → tv_Ev G mm_La_writeItem 33 [some (.ref a), some (.int (nI w)), some (.ref e), some (.int s), some (.int (nI k))] [] hc c z Q := by
  intro j
  have hp19 := he.2.1.len
  induction j with
  | zero =>
    intro k hi hc ht hf
    have hi : k = p.length := by omega
    subst hi
    have he' := he.kept hf na
    obtain ⟨_, i1, -⟩ := id he'.2.1
    rw [List.take_length] at ht
    refine e_La_writeItem_33 rfl ?_
    refine e_La_writeItem_35 rfl ?_
    refine e_La_writeItem_36 he'.1 rfl ?_
    refine e_La_writeItem_39 i1 rfl ?_
    refine e_La_writeItem_42 (fun _ => ?_) (fun c1 => absurd (nI_le (Nat.le_refl _) (by omega)) c1)
    exact hk hc ht hf
  | succ j ih =>
    intro k hi hc ht hf
    have he' := he.kept hf na
    obtain ⟨_, i1, -⟩ := id he'.2.1
    obtain ⟨_, i2, -⟩ := id ht
    have hei : p[k]? = some p[k] := List.getElem?_eq_getElem (by omega)
    have hlt := sp p[k] (List.getElem_mem _)
    refine e_La_writeItem_33 rfl ?_
    refine e_La_writeItem_35 rfl ?_
    refine e_La_writeItem_36 he'.1 rfl ?_
    refine e_La_writeItem_39 i1 rfl ?_
    refine e_La_writeItem_42 (fun c1 => absurd c1 (nI_ge (by omega) (by omega))) (fun _ => ?_)
    refine e_La_writeItem_45 rfl ?_
    refine e_La_writeItem_46 rfl ?_
    refine e_La_writeItem_47 he'.1 rfl ?_
    refine e_La_writeItem_50 rfl ?_
    refine e_La_writeItem_52 i1 (Nat.le_of_ble_eq_true rfl) (c_Pa_signAt he'.2.1 (by omega)) (kp ?_) xn
    rw [sg_at hei, s8_lo hlt]
    refine e_La_writeItem_55 i2 (by decide) (c_La_append ht (by omega) (by rw [List.length_append, List.length_take]; omega)) (kn ?_) xn
    rintro hd ⟨ld, fd⟩
    rw [List.append_assoc, ← take_g hei] at ld
    have := ih (k + 1) (by omega) hd ld (hf.tr fd)
    rw [nI_succ] at this
    refine e_La_writeItem_58 rfl ?_
    refine e_La_writeItem_61  ?_
    exact this
theorem l_La_writeItem2 {w : Nat} {s : Nat} {ds : List Nat} (hs : ds.length = s) (hds : ds <+: cs) (he : en h e p kd cs) (na : ∀ d, eS e d → ¬ pS a d) (hl : bs.length + ds.length ≤ 2480) {Q : tv_R → tv_H → Prop} (hk : ∀ hc g, la hc a (bs ++ ds) m → fr (pS a) h hc → tv_Ev G mm_La_writeItem 106 [some (.ref a), some (.int (nI w)), some (.ref e), some (.int (nI s)), g] [] hc c z Q) : ∀ j k, j + k = s → ∀ hc, la hc a (bs ++ ds.take k) m → fr (pS a) h hc → tv_Ev G mm_La_writeItem 84 [some (.ref a), some (.int (nI w)), some (.ref e), some (.int (nI s)), some (.int (nI k))] [] hc c z Q := by
  intro j
  have hc16 := he.len
  have hdl := hds.length_le
  subst hs
  induction j with
  | zero =>
    intro k hi hc ht hf
    have hi : k = ds.length := by omega
    subst hi
    rw [List.take_length] at ht
    refine e_La_writeItem_84 rfl ?_
    refine e_La_writeItem_86 rfl ?_
    refine e_La_writeItem_87 (fun _ => ?_) (fun c1 => absurd (nI_le (Nat.le_refl _) (by omega)) c1)
    exact hk hc _ ht hf
  | succ j ih =>
    intro k hi hc ht hf
    have he' := he.kept hf na
    obtain ⟨_, i2, -⟩ := id ht
    have hei : ds[k]? = some ds[k] := List.getElem?_eq_getElem (by omega)
    have hek : cs[k]? = some ds[k] := (pre_at hds (by omega)).trans hei
    obtain ⟨-, -, _, -, -, -, -, h256⟩ := id he
    have hlt := h256 ds[k] (List.mem_of_getElem? hek)
    refine e_La_writeItem_84 rfl ?_
    refine e_La_writeItem_86 rfl ?_
    refine e_La_writeItem_87 (fun c1 => absurd c1 (nI_ge (by omega) (by omega))) (fun _ => ?_)
    refine e_La_writeItem_90 rfl ?_
    refine e_La_writeItem_91 rfl ?_
    refine e_La_writeItem_92 rfl ?_
    refine e_La_writeItem_94 he'.1 (Nat.le_of_ble_eq_true rfl) (c_En_byteAt he' (by omega)) (kp ?_) xn
    rw [by_at hek]
    refine e_La_writeItem_97 i2 (by decide) (c_La_append ht hlt (by rw [List.length_append, List.length_take]; omega)) (kn ?_) xn
    rintro hd ⟨ld, fd⟩
    rw [List.append_assoc, ← take_g hei] at ld
    have := ih (k + 1) (by omega) hd ld (hf.tr fd)
    rw [nI_succ] at this
    refine e_La_writeItem_100 rfl ?_
    refine e_La_writeItem_103  ?_
    exact this
theorem and255 : ∀ n, n < 17 → nI n &&& 255 = nI n := by decide +kernel
theorem ushr8 : ∀ n, n < 17 → ((nI n).toUInt32 >>> (Int32.toUInt32 8 &&& Int32.toUInt32 31)).toInt32 = nI 0 := by decide +kernel
theorem la.items (hl : la h a bs m) : la (h.set a (1, [.ref (a + 1), .int (nI bs.length), .int (nI m + 1)])) a bs (m + 1) := by
  obtain ⟨as, h1, h2, h3⟩ := hl
  exact ⟨as, by rw [gs_eq h1, nI_1], gs_ne h2 (by omega), h3⟩
theorem c_La_writeItem {w : Nat} (hw : w < 128) (hl : la h a bs m) (he : en h e p kd cs) (sp : sm p) (na : ∀ d, eS e d → ¬ pS a d) (hn : bs.length + (4 + p.length + (if w = 2 then cs else []).length) ≤ 2480) : tv_Ct G mm_La_writeItem [.ref a, .int (nI w), .ref e] h 0 0 (rn (fun h' => la h' a (bs ++ itb (w, p, if w = 2 then cs else [])) (m + 1) ∧ fr (pS a) h h')) := by
  have hp19 := he.2.1.len
  have hc16 := he.len
  have main : ∀ ds, ds <+: cs → bs.length + (4 + p.length + ds.length) ≤ 2480 → tv_Ev G mm_La_writeItem 13 [some (.ref a), some (.int (nI w)), some (.ref e), none, none] [.int (nI ds.length)] h 0 0 (rn (fun h' => la h' a (bs ++ itb (w, p, ds)) (m + 1) ∧ fr (pS a) h h')) := by
    intro ds hds hn
    have hdl := hds.length_le
    obtain ⟨_, i1, -⟩ := id hl
    obtain ⟨_, i2, -⟩ := id he.2.1
    refine e_La_writeItem_13 (Nat.le_of_ble_eq_true rfl) ?_
    refine e_La_writeItem_14 rfl ?_
    refine e_La_writeItem_15 rfl ?_
    refine e_La_writeItem_16 i1 (by decide) (c_La_append hl (by omega) (by omega)) (kn ?_) xn
    rintro h3 ⟨l3, f3⟩
    have e3 := he.kept f3 na
    obtain ⟨_, i3, -⟩ := id l3
    obtain ⟨_, j3, -⟩ := id e3.2.1
    refine e_La_writeItem_19 rfl ?_
    refine e_La_writeItem_20 rfl ?_
    refine e_La_writeItem_21 e3.1 rfl ?_
    refine e_La_writeItem_24 j3 rfl ?_
    refine e_La_writeItem_27 i3 (by decide) (c_La_append l3 (by omega) (by rw [List.length_append, List.length_singleton]; omega)) (kn ?_) xn
    rintro h4 ⟨l4, f4⟩
    refine e_La_writeItem_30  ?_
    refine e_La_writeItem_31 (Nat.le_of_ble_eq_true rfl) ?_
    refine l_La_writeItem1 (bs := bs ++ [w] ++ [p.length]) (he.kept (f3.tr f4) na) sp na (by simp; omega) (fun h5 l5 f5 => ?_) p.length 0 rfl h4 (by rw [List.take_zero, List.append_nil]; exact l4) fr.rf
    obtain ⟨_, i5, -⟩ := id l5
    refine e_La_writeItem_64 rfl ?_
    refine e_La_writeItem_65 rfl ?_
    refine e_La_writeItem_66  ?_
    refine e_La_writeItem_69  ?_
    rw [and255 _ (by omega)]
    refine e_La_writeItem_70 i5 (by decide) (c_La_append l5 (by omega) (by simp; omega)) (kn ?_) xn
    rintro h6 ⟨l6, f6⟩
    obtain ⟨_, i6, -⟩ := id l6
    refine e_La_writeItem_73 rfl ?_
    refine e_La_writeItem_74 rfl ?_
    refine e_La_writeItem_75  ?_
    refine e_La_writeItem_77  ?_
    rw [ushr8 _ (by omega)]
    refine e_La_writeItem_78 i6 (by decide) (c_La_append l6 (by omega) (by simp; omega)) (kn ?_) xn
    rintro h7 ⟨l7, f7⟩
    refine e_La_writeItem_81  ?_
    refine e_La_writeItem_82 (Nat.le_of_ble_eq_true rfl) ?_
    have fa := (((f3.tr f4).tr f5).tr f6).tr f7
    refine l_La_writeItem2 (bs := bs ++ [w] ++ [p.length] ++ p ++ [ds.length] ++ [0]) rfl hds (he.kept fa na) na (by simp; omega) (fun h8 g l8 f8 => ?_) ds.length 0 rfl h7 (by rw [List.take_zero, List.append_nil]; exact l7) fr.rf
    have eb : bs ++ [w] ++ [p.length] ++ p ++ [ds.length] ++ [0] ++ ds = bs ++ itb (w, p, ds) := by
      unfold itb
      simp
    rw [eb] at l8
    obtain ⟨_, i8, -⟩ := id l8
    refine e_La_writeItem_106 rfl ?_
    refine e_La_writeItem_107 rfl ?_
    refine e_La_writeItem_108 i8 rfl ?_
    refine e_La_writeItem_111  ?_
    refine e_La_writeItem_112  ?_
    refine e_La_writeItem_113 i8 (Nat.le_of_ble_eq_true rfl) ?_
    exact e_La_writeItem_116 ⟨rfl, l8.items, (fa.tr f8).tr (fr.set (Or.inl rfl))⟩
  refine tv_ct rfl (by decide +kernel) (by simp [Value.category]) (Nat.le_of_ble_eq_true rfl) ?_
  refine e_La_writeItem_0 rfl ?_
  refine e_La_writeItem_1  ?_
  refine e_La_writeItem_2 (fun c1 => ?_) (fun c1 => ?_)
  · have : w ≠ 2 := fun q => c1 (by rw [q]; rfl)
    rw [if_neg this] at hn ⊢
    refine e_La_writeItem_12  ?_
    exact main [] List.nil_prefix hn
  · have : w = 2 := (nI_eq (b := 2) (by omega) (by decide)).mp c1
    rw [if_pos this] at hn ⊢
    refine e_La_writeItem_5 rfl ?_
    refine e_La_writeItem_6 he.1 rfl ?_
    refine e_La_writeItem_9  ?_
    exact main cs (List.prefix_refl _) hn
end
