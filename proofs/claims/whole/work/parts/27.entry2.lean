/-! Entry -/
theorem wbk_mono (w : Int32) {k m : Nat} (h : k ≤ m) : (wbk w k).length ≤ (wbk w m).length := by
  induction m with
  | zero => rw [show k = 0 by omega]; exact Nat.le_refl _
  | succ m ih =>
    rcases Nat.lt_or_ge k (m + 1) with h1 | h1
    · rw [wbk_s, List.length_append]
      have := ih (by omega)
      omega
    · rw [show k = m + 1 by omega]; exact Nat.le_refl _
/-- the byte at k, or -1 -/
def by_ (cs : List Nat) (k : Nat) : Int32 := match cs[k]? with
  | some c => nI c
  | none => -1
theorem by_ge {cs : List Nat} {k : Nat} (h : cs.length ≤ k) : by_ cs k = -1 := by
  unfold by_
  rw [List.getElem?_eq_none h]
theorem by_at {cs : List Nat} {k c : Nat} (h : cs[k]? = some c) : by_ cs k = nI c := by
  unfold by_
  rw [h]
section
variable {G : tv_G} {h : tv_H} {a b : Nat} {p q : List Nat} {c z : Nat} {Q : tv_R → tv_H → Prop}
variable {e f : Nat} {kd kd2 : Int32} {cs ds : List Nat}
theorem c_En_append (he : en h e p kd cs) {x : Nat} (hx : x < 256) (hl : cs.length < 16) : tv_Ct G mm_En_append [.ref e, .int (nI x)] h 0 0 (rn (fun h' => en h' e p kd (cs ++ [x]) ∧ fr (eS e) h h')) := by
  obtain ⟨h1, hp, bs, h2, h3, h4, h5, h6⟩ := he
  refine tv_ct rfl (by decide +kernel) (by simp [Value.category]) (Nat.le_of_ble_eq_true rfl) ?_
  refine e_En_append_0 rfl ?_
  refine e_En_append_1 h1 rfl ?_
  refine e_En_append_4  ?_
  refine e_En_append_6 (fun c2 => absurd c2 (nI_ge (b := 16) (by omega) (by decide))) (fun _ => ?_)
  refine e_En_append_9 rfl ?_
  refine e_En_append_10 h1 rfl ?_
  refine e_En_append_13 rfl ?_
  refine e_En_append_14 h1 rfl ?_
  refine e_En_append_17 rfl ?_
  refine e_En_append_18  ?_
  refine e_En_append_19 cs.length h2 rfl (by simp; omega) (by simp; omega) ?_
  rw [i8i8]
  have g1 : (h.set (e + 3) (100, (bs.map Value.int).set cs.length (.int (nI x).toInt8.toInt32)))[e]? = some (0, [.ref (e + 1), .int kd, .ref (e + 3), .int (nI cs.length)]) := gs_ne h1 (by omega)
  refine e_En_append_20 rfl ?_
  refine e_En_append_21 rfl ?_
  refine e_En_append_22 g1 rfl ?_
  refine e_En_append_25  ?_
  refine e_En_append_26  ?_
  refine e_En_append_27 g1 (Nat.le_of_ble_eq_true rfl) ?_
  refine e_En_append_30 ⟨rfl, ⟨?_, hp.kept (gs_ne (gs_ne rfl (by omega)) (by omega)) (gs_ne (gs_ne rfl (by omega)) (by omega)), bs.set cs.length (sb_b x), ?_, by simpa using h3, ?_, ?_, ?_⟩, (fr.set ⟨by omega, by omega⟩).tr (fr.set ⟨by omega, by omega⟩)⟩
  · rw [gs_eq g1]
    rw [List.length_append]
    show some (0, [Value.ref (e + 1), .int kd, .ref (e + 3), Value.int (nI cs.length + 1)]) = _
    rw [nI_1]
    rfl
  · refine gs_ne ?_ (by omega)
    rw [gs_eq h2, List.map_set]
    rfl
  · obtain ⟨t, rfl⟩ := h4
    cases t with
    | nil => simp at h3; omega
    | cons u t =>
      refine ⟨t, ?_⟩
      rw [List.set_append_right _ _ (by simp)]
      simp
  · intro b hb
    rcases List.mem_or_eq_of_mem_set hb with h9 | h9
    · exact h5 b h9
    · rw [h9]; exact sb_fitB x
  · intro d hd
    rcases List.mem_append.mp hd with h9 | h9
    · exact h6 d h9
    · rw [List.mem_singleton.mp h9]; exact hx
theorem l_En_appendWord (w : Int32) (hl : cs.length + (wbk w 4).length ≤ 16) : ∀ j k, j + k = 4 → ∀ h' u, en h' e p kd (cs ++ wbk w k) → fr (eS e) h h' → tv_Ev G mm_En_appendWord 2 [some (.ref e), some (.int w), some (.int (nI k)), u] [] h' c z (rn (fun h'' => en h'' e p kd (cs ++ wbk w 4) ∧ fr (eS e) h h'')) := by
  intro j
  induction j with
  | zero =>
    intro k hk h' u hp hf
    have hk : k = 4 := by omega
    subst hk
    refine e_En_appendWord_2 rfl ?_
    refine e_En_appendWord_3  ?_
    refine e_En_appendWord_4 (fun _ => ?_) (fun c1 => absurd (by decide) c1)
    exact e_En_appendWord_28 ⟨rfl, hp, hf⟩
  | succ j ih =>
    intro k hk h' u hp hf
    obtain ⟨h1, -⟩ := id hp
    have hi := ih (k + 1) (by omega)
    have hmono := wbk_mono w (k := k + 1) (m := 4) (by omega)
    rw [nI_succ, wbk_s] at hi
    rw [wbk_s] at hmono
    refine e_En_appendWord_2 rfl ?_
    refine e_En_appendWord_3  ?_
    refine e_En_appendWord_4 (fun c1 => absurd c1 (nI_ge (b := 4) (by omega) (by decide))) (fun _ => ?_)
    refine e_En_appendWord_7 rfl ?_
    refine e_En_appendWord_8 rfl ?_
    refine e_En_appendWord_9 (by decide) (c_Tc_byteOf w (by omega)) nx (kp ?_)
    refine e_En_appendWord_12 (Nat.le_of_ble_eq_true rfl) ?_
    refine e_En_appendWord_13 rfl ?_
    refine e_En_appendWord_14 (fun c1 => ?_) (fun c1 => ?_)
    · refine e_En_appendWord_22 rfl ?_
      refine e_En_appendWord_25  ?_
      have h0 : wb w k = 0 := (nI_eq (by have := wb_lt w k; omega) (by omega)).mp (c1.trans nI_0.symm)
      rw [if_pos h0, List.append_nil] at hi
      exact hi h' _ hp hf
    · have h0 : wb w k ≠ 0 := fun e => c1 (by rw [e]; rfl)
      rw [if_neg h0, ← List.append_assoc] at hi
      rw [if_neg h0, List.length_append, List.length_singleton] at hmono
      refine e_En_appendWord_17 rfl ?_
      refine e_En_appendWord_18 rfl ?_
      refine e_En_appendWord_19 h1 (by decide) (c_En_append hp (wb_lt w k) (by rw [List.length_append]; omega)) (kn ?_) xn
      rintro h'' ⟨hp', hf'⟩
      refine e_En_appendWord_22 rfl ?_
      refine e_En_appendWord_25  ?_
      exact hi h'' _ hp' (hf.tr hf')
theorem c_En_appendWord (he : en h e p kd cs) (w : Int32) (hl : cs.length + (wbk w 4).length ≤ 16) : tv_Ct G mm_En_appendWord [.ref e, .int w] h 0 0 (rn (fun h' => en h' e p kd (cs ++ wbk w 4) ∧ fr (eS e) h h')) := by
  refine tv_ct rfl (by decide +kernel) (by simp [Value.category]) (Nat.le_of_ble_eq_true rfl) ?_
  refine e_En_appendWord_0  ?_
  refine e_En_appendWord_1 (Nat.le_of_ble_eq_true rfl) ?_
  exact l_En_appendWord w hl 4 0 rfl h none (by rw [show wbk w 0 = [] from rfl, List.append_nil]; exact he) fr.rf
theorem c_En_become (he : en h e p kd cs) (hf : en h f q kd2 ds) (hn : f > e + 3 ∨ e > f + 3) : tv_Ct G mm_En_become [.ref e, .ref f] h 0 0 (rn (fun h' => en h' e q kd2 ds ∧ fr (eS e) h h')) := by
  obtain ⟨h1, hp, bs, h2, h3, h4, h5, h6⟩ := he
  obtain ⟨g1, hq, as, g2, g3, g4, g5, g6⟩ := hf
  obtain ⟨_, i1, -⟩ := id hp
  refine tv_ct rfl (by decide +kernel) (by simp [Value.category]) (Nat.le_of_ble_eq_true rfl) ?_
  refine e_En_become_0 rfl ?_
  refine e_En_become_1 h1 rfl ?_
  refine e_En_become_4 rfl ?_
  refine e_En_become_5 g1 rfl ?_
  refine e_En_become_8 i1 (by decide) (c_Pa_become hp hq (by omega) (by omega)) (kn ?_) xn
  rintro h' ⟨p', f'⟩
  have n0 : ∀ d : Nat, d ≠ e + 1 → d ≠ e + 2 → h'[d]? = h[d]? := fun d a1 a2 => f'.2 d (by rintro (q | q) <;> omega)
  have j1 := (n0 e (by omega) (by omega)).trans h1
  have j2 := (n0 (e + 3) (by omega) (by omega)).trans h2
  have k1 := (n0 f (by omega) (by omega)).trans g1
  have k2 := (n0 (f + 3) (by omega) (by omega)).trans g2
  refine e_En_become_11 rfl ?_
  refine e_En_become_12 rfl ?_
  refine e_En_become_13 k1 rfl ?_
  refine e_En_become_16 j1 (Nat.le_of_ble_eq_true rfl) ?_
  have n1 : ∀ d : Nat, d ≠ e → ∀ (u : tv_E), (h'.set e u)[d]? = h'[d]? := fun d hd u => gs_ne rfl (Ne.symm hd)
  have j1' := gs_eq (e := (0, [Value.ref (e + 1), .int kd2, .ref (e + 3), .int (nI cs.length)])) j1
  have j2' := (n1 (e + 3) (by omega) (0, [Value.ref (e + 1), .int kd2, .ref (e + 3), .int (nI cs.length)])).trans j2
  have k1' := (n1 f (by omega) (0, [Value.ref (e + 1), .int kd2, .ref (e + 3), .int (nI cs.length)])).trans k1
  have k2' := (n1 (f + 3) (by omega) (0, [Value.ref (e + 1), .int kd2, .ref (e + 3), .int (nI cs.length)])).trans k2
  refine e_En_become_19 rfl ?_
  refine e_En_become_20 k1' rfl ?_
  refine e_En_become_23  ?_
  refine e_En_become_24 rfl ?_
  refine e_En_become_25 j1' rfl ?_
  refine e_En_become_28  ?_
  refine e_En_become_29  ?_
  refine e_En_become_31 0 0 16 k2' j2' rfl rfl rfl (by simp; omega) (by simp; omega) (by simp; omega) (by simp; omega) (by intro v hv; obtain ⟨d, hd, rfl⟩ := List.mem_map.mp hv; exact g5 d hd) (by decide) ?_
  have e1 : tv_cpy (as.map Value.int) (bs.map Value.int) 0 0 16 = as.map Value.int := by
    have := tv_cpy_all (fs := as.map Value.int) (gs := bs.map Value.int) (by simp; omega)
    rw [List.length_map, g3] at this
    exact this
  rw [e1]
  have j1'' := gs_ne (a := e + 3) (e := (100, as.map Value.int)) j1' (by omega)
  have k1'' := gs_ne (a := e + 3) (e := (100, as.map Value.int)) k1' (by omega)
  refine e_En_become_34 rfl ?_
  refine e_En_become_35 rfl ?_
  refine e_En_become_36 k1'' rfl ?_
  refine e_En_become_39 j1'' (Nat.le_of_ble_eq_true rfl) ?_
  refine e_En_become_42 ⟨rfl, ⟨gs_eq j1'', p'.kept (gs_ne (gs_ne (gs_ne rfl (by omega)) (by omega)) (by omega)) (gs_ne (gs_ne (gs_ne rfl (by omega)) (by omega)) (by omega)), as, gs_ne (gs_eq j2') (by omega), g3, g4, g5, g6⟩, ?_⟩
  exact (((f'.mono (S' := eS e) (by rintro d (q | q) <;> exact ⟨by omega, by omega⟩)).tr (fr.set ⟨by omega, by omega⟩)).tr (fr.set ⟨by omega, by omega⟩)).tr (fr.set ⟨by omega, by omega⟩)
theorem c_En_byteAt (he : en h e p kd cs) {k : Nat} (hk : k < 2 ^ 31) : tv_Ct G mm_En_byteAt [.ref e, .int (nI k)] h 0 0 (rv (.int (by_ cs k)) (fun h' => h' = h)) := by
  have hl := he.len
  obtain ⟨h1, -, bs, h2, h3, h4, h5, h6⟩ := he
  refine tv_ct rfl (by decide +kernel) (by simp [Value.category]) (Nat.le_of_ble_eq_true rfl) ?_
  refine e_En_byteAt_0 rfl ?_
  refine e_En_byteAt_1 (fun c1 => absurd c1 (nI_pos hk)) (fun _ => ?_)
  refine e_En_byteAt_4 rfl ?_
  refine e_En_byteAt_5 rfl ?_
  refine e_En_byteAt_6 h1 rfl ?_
  refine e_En_byteAt_9 (fun c1 => ?_) (fun c1 => ?_)
  · refine e_En_byteAt_31  ?_
    exact e_En_byteAt_32 ⟨by rw [by_ge ((nI_leI (by omega) hk).mp c1)], rfl⟩
  · have hlt : k < cs.length := by
      rcases Nat.lt_or_ge k cs.length with h9 | h9
      · exact h9
      · exact absurd (nI_le h9 hk) c1
    obtain ⟨d, hd⟩ : ∃ d, cs[k]? = some d := ⟨_, List.getElem?_eq_getElem hlt⟩
    refine e_En_byteAt_12 rfl ?_
    refine e_En_byteAt_13  ?_
    refine e_En_byteAt_15 (fun c2 => absurd c2 (nI_ge (b := 16) (by omega) (by decide))) (fun _ => ?_)
    refine e_En_byteAt_18 rfl ?_
    refine e_En_byteAt_19 h1 rfl ?_
    refine e_En_byteAt_22 rfl ?_
    refine e_En_byteAt_23 k h2 rfl (pre_get h4 hd) (by simp; omega) ?_
    refine e_En_byteAt_24  ?_
    refine e_En_byteAt_27  ?_
    refine e_En_byteAt_28  ?_
    exact e_En_byteAt_32 ⟨by rw [by_at hd, s8_and (h6 d (List.mem_of_getElem? hd))], rfl⟩
theorem l_En_hasLikeContent (he : en h e p kd cs) (hf : en h f q kd2 ds) (hkd : kd = kd2) (hlen : cs.length = ds.length) : ∀ j k, j + k = cs.length → cs.take k = ds.take k → tv_Ev G mm_En_hasLikeContent 26 [some (.ref e), some (.ref f), some (.int (nI k))] [] h c z (rv (.int (if kd = kd2 ∧ cs = ds then 1 else 0)) (fun h' => h' = h)) := by
  have hl := he.len
  obtain ⟨h1, -, bs, h2, h3, h4, h5, h6⟩ := id he
  obtain ⟨g1, -, as, g2, g3, g4, g5, g6⟩ := id hf
  intro j
  induction j with
  | zero =>
    intro k hk ht
    have hk : k = cs.length := by omega
    subst hk
    rw [List.take_length, hlen, List.take_length] at ht
    refine e_En_hasLikeContent_26 rfl ?_
    refine e_En_hasLikeContent_27 rfl ?_
    refine e_En_hasLikeContent_28 h1 rfl ?_
    refine e_En_hasLikeContent_31 (fun _ => ?_) (fun c1 => absurd (nI_le (Nat.le_refl _) (by omega)) c1)
    refine e_En_hasLikeContent_55  ?_
    exact e_En_hasLikeContent_56 (Or.inr rfl) ⟨by rw [if_pos ⟨hkd, ht⟩], rfl⟩
  | succ j ih =>
    intro k hk ht
    obtain ⟨d, hd⟩ : ∃ d, cs[k]? = some d := ⟨_, List.getElem?_eq_getElem (by omega)⟩
    obtain ⟨d2, hd2⟩ : ∃ d, ds[k]? = some d := ⟨_, List.getElem?_eq_getElem (by omega)⟩
    have b1 := h6 d (List.mem_of_getElem? hd)
    have b2 := g6 d2 (List.mem_of_getElem? hd2)
    refine e_En_hasLikeContent_26 rfl ?_
    refine e_En_hasLikeContent_27 rfl ?_
    refine e_En_hasLikeContent_28 h1 rfl ?_
    refine e_En_hasLikeContent_31 (fun c1 => absurd c1 (nI_ge (by omega) (by omega))) (fun _ => ?_)
    refine e_En_hasLikeContent_34 rfl ?_
    refine e_En_hasLikeContent_35 rfl ?_
    refine e_En_hasLikeContent_36 h1 (by decide) (c_En_byteAt he (by omega)) (kp ?_) xn
    refine e_En_hasLikeContent_39 rfl ?_
    refine e_En_hasLikeContent_40 rfl ?_
    refine e_En_hasLikeContent_41 g1 (Nat.le_of_ble_eq_true rfl) (c_En_byteAt hf (by omega)) (kp ?_) xn
    rw [by_at hd, by_at hd2]
    refine e_En_hasLikeContent_44 (fun c1 => ?_) (fun c1 => ?_)
    · have e1 : d = d2 := (nI_eq (by omega) (by omega)).mp c1
      refine e_En_hasLikeContent_49 rfl ?_
      refine e_En_hasLikeContent_52  ?_
      have hi := ih (k + 1) (by omega) (by rw [take_s hd, take_s hd2, ht, e1])
      rw [nI_succ] at hi
      exact hi
    · refine e_En_hasLikeContent_47  ?_
      refine e_En_hasLikeContent_48 (Or.inl rfl) ⟨?_, rfl⟩
      rw [if_neg]
      rintro ⟨-, rfl⟩
      rw [hd] at hd2
      exact c1 (by rw [Option.some.inj hd2])
theorem c_En_hasLikeContent (he : en h e p kd cs) (hf : en h f q kd2 ds) : tv_Ct G mm_En_hasLikeContent [.ref e, .ref f] h 0 0 (rv (.int (if kd = kd2 ∧ cs = ds then 1 else 0)) (fun h' => h' = h)) := by
  have hl := he.len
  have hl2 := hf.len
  obtain ⟨h1, -⟩ := id he
  obtain ⟨g1, -⟩ := id hf
  refine tv_ct rfl (by decide +kernel) (by simp [Value.category]) (Nat.le_of_ble_eq_true rfl) ?_
  refine e_En_hasLikeContent_0 rfl ?_
  refine e_En_hasLikeContent_1 h1 rfl ?_
  refine e_En_hasLikeContent_4 rfl ?_
  refine e_En_hasLikeContent_5 g1 rfl ?_
  refine e_En_hasLikeContent_8 (fun c1 => ?_) (fun c1 => ?_)
  · refine e_En_hasLikeContent_22  ?_
    exact e_En_hasLikeContent_23 (Or.inl rfl) ⟨by rw [if_neg (fun q => c1 q.1)], rfl⟩
  · refine e_En_hasLikeContent_11 rfl ?_
    refine e_En_hasLikeContent_12 h1 rfl ?_
    refine e_En_hasLikeContent_15 rfl ?_
    refine e_En_hasLikeContent_16 g1 rfl ?_
    refine e_En_hasLikeContent_19 (fun c2 => ?_) (fun c2 => ?_)
    · refine e_En_hasLikeContent_24  ?_
      refine e_En_hasLikeContent_25 (Nat.le_of_ble_eq_true rfl) ?_
      exact l_En_hasLikeContent he hf c1 ((nI_eq (by omega) (by omega)).mp c2) cs.length 0 rfl rfl
    · refine e_En_hasLikeContent_22  ?_
      exact e_En_hasLikeContent_23 (Or.inl rfl) ⟨by rw [if_neg (by rintro ⟨-, rfl⟩; exact c2 rfl)], rfl⟩
/-- what tell answers -/
def tl (p : List Nat) (kd : Int32) (cs : List Nat) (w : Nat) : Int32 := if 16 ≤ w then by_ cs (w - 16) else if 3 ≤ w then sg p (w - 3) else if w = 0 then kd else if w = 1 then nI (nms p) else nI cs.length
theorem c_En_tell (he : en h e p kd cs) {w : Nat} (hw : w < 32) : tv_Ct G mm_En_tell [.ref e, .int (nI w)] h 0 0 (rv (.int (tl p kd cs w)) (fun h' => h' = h)) := by
  obtain ⟨h1, hp, -⟩ := id he
  obtain ⟨_, i1, -⟩ := id hp
  refine tv_ct rfl (by decide +kernel) (by simp [Value.category]) (Nat.le_of_ble_eq_true rfl) ?_
  refine e_En_tell_0 rfl ?_
  refine e_En_tell_1  ?_
  refine e_En_tell_3 (fun c1 => ?_) (fun c1 => ?_)
  · have w1 : w < 16 := (nI_ltI (b := 16) (by omega) (by decide)).mp c1
    refine e_En_tell_15 rfl ?_
    refine e_En_tell_16  ?_
    refine e_En_tell_17 (fun c2 => ?_) (fun c2 => ?_)
    · have w2 : w < 3 := (nI_ltI (b := 3) (by omega) (by decide)).mp c2
      refine e_En_tell_31 rfl ?_
      refine e_En_tell_32 (fun c3 => ?_) (fun c3 => ?_)
      · have w3 : w ≠ 0 := by rintro rfl; exact c3 rfl
        refine e_En_tell_42 rfl ?_
        refine e_En_tell_43  ?_
        refine e_En_tell_44 (fun c4 => ?_) (fun c4 => ?_)
        · have w4 : w ≠ 1 := by rintro rfl; exact c4 rfl
          refine e_En_tell_57 rfl ?_
          refine e_En_tell_58 h1 rfl ?_
          exact e_En_tell_61 ⟨by rw [tl, if_neg (by omega), if_neg (by omega), if_neg w3, if_neg w4], rfl⟩
        · have w4 : w = 1 := (nI_eq (b := 1) (by omega) (by decide)).mp c4
          refine e_En_tell_47 rfl ?_
          refine e_En_tell_48 h1 rfl ?_
          refine e_En_tell_51 i1 (by decide) (c_Pa_names hp) (kp ?_) xn
          refine e_En_tell_54  ?_
          exact e_En_tell_61 ⟨by rw [tl, if_neg (by omega), if_neg (by omega), if_neg w3, if_pos w4], rfl⟩
      · have w3 : w = 0 := (nI_eq (b := 0) (by omega) (by decide)).mp c3
        refine e_En_tell_35 rfl ?_
        refine e_En_tell_36 h1 rfl ?_
        refine e_En_tell_39  ?_
        exact e_En_tell_61 ⟨by rw [tl, if_neg (by omega), if_neg (by omega), if_pos w3], rfl⟩
    · have w2 : 3 ≤ w := by
        rcases Nat.lt_or_ge w 3 with g | g
        · exact absurd (nI_lt (b := 3) g (by decide)) c2
        · exact g
      have e1 : nI w - 3 = nI (w - 3) := pk_sub (b := 3) w2
      refine e_En_tell_20 rfl ?_
      refine e_En_tell_21 h1 rfl ?_
      refine e_En_tell_24 rfl ?_
      refine e_En_tell_25  ?_
      refine e_En_tell_26  ?_
      rw [e1]
      refine e_En_tell_27 i1 (by decide) (c_Pa_signAt hp (by omega)) (kp ?_) xn
      exact e_En_tell_30 ⟨by rw [tl, if_neg (by omega), if_pos w2], rfl⟩
  · have w1 : 16 ≤ w := by
      rcases Nat.lt_or_ge w 16 with g | g
      · exact absurd (nI_lt (b := 16) g (by decide)) c1
      · exact g
    have e1 : nI w - 16 = nI (w - 16) := pk_sub (b := 16) w1
    refine e_En_tell_6 rfl ?_
    refine e_En_tell_7 rfl ?_
    refine e_En_tell_8  ?_
    refine e_En_tell_10  ?_
    rw [e1]
    refine e_En_tell_11 h1 (by decide) (c_En_byteAt he (by omega)) (kp ?_) xn
    exact e_En_tell_14 ⟨by rw [tl, if_pos w1], rfl⟩
end
