/-! Tree: deepest, canShift, shift -/
theorem nms_le {h : tv_H} {a : Nat} {p : List Nat} (hp : pa h a p) : nms p ≤ 20 := by
  have hl := hp.len
  unfold nms
  have := List.count_le_length (l := p) (a := 47)
  split <;> omega
def dpk (q : List Nat) (es : List tE) : Nat := es.foldl (fun m f => if bw f.1 q then max m (nms f.1) else m) (nms q)
theorem dpk_s {q : List Nat} {es : List tE} {f : tE} : dpk q (es ++ [f]) = if bw f.1 q then max (dpk q es) (nms f.1) else dpk q es := by
  unfold dpk
  rw [List.foldl_append]
  rfl
theorem dpk_ge {q : List Nat} : ∀ (es : List tE), nms q ≤ dpk q es := by
  intro es
  unfold dpk
  have H : ∀ (es : List tE) (m : Nat), m ≤ es.foldl (fun m f => if bw f.1 q then max m (nms f.1) else m) m := by
    intro es
    induction es with
    | nil => intro m; exact Nat.le_refl m
    | cons f es ih =>
      intro m
      rw [List.foldl_cons]
      refine Nat.le_trans ?_ (ih _)
      split
      · exact Nat.le_max_left _ _
      · exact Nat.le_refl m
  exact H es (nms q)
section
variable {G : tv_G} {h h' : tv_H} {a b b1 b2 t u n e : Nat} {p q q1 q2 : List Nat} {c z : Nat} {es es2 : List tE} {L L' : List (Nat × tE)} {kd : Int32} {cs : List Nat}
theorem l_Tr_deepest (ht : tr h t es) (hs : sme es) (hq : pa h b q) (sq : sm q) : ∀ j i, j + i = es.length → dpk q (es.take i) ≤ 20 → tv_Ev G mm_Tr_deepest 7 [some (.ref t), some (.ref b), some (.int (nI (dpk q (es.take i)))), some (.int (nI i))] [] h c z (rv (.int (nI (dpk q es))) (fun h' => h' = h ∧ dpk q es ≤ 20)) := by
  have hl := ht.len
  obtain ⟨rs, h1, h2, h3, h4⟩ := ht.row
  intro j
  induction j with
  | zero =>
    intro i hi hd
    have hi : i = es.length := by omega
    subst hi
    rw [List.take_length] at hd
    refine e_Tr_deepest_7 rfl ?_
    refine e_Tr_deepest_8 rfl ?_
    refine e_Tr_deepest_9 h1 rfl ?_
    refine e_Tr_deepest_12 (fun _ => ?_) (fun c1 => absurd (nI_le (Nat.le_refl _) (by omega)) c1)
    refine e_Tr_deepest_54 rfl ?_
    exact e_Tr_deepest_55 ⟨by rw [List.take_length], rfl, hd⟩
  | succ j ih =>
    intro i hi hd
    have hei : es[i]? = some es[i] := List.getElem?_eq_getElem (by omega)
    obtain ⟨r, hr, e1⟩ := h4 i _ hei
    obtain ⟨_, i1, -⟩ := id e1.2.1
    have s1 : sm es[i].1 := hs _ (List.getElem_mem _)
    have hnm := nms_le e1.2.1
    have hst : dpk q (es.take (i + 1)) = if bw es[i].1 q then max (dpk q (es.take i)) (nms es[i].1) else dpk q (es.take i) := by rw [take_g hei, dpk_s]
    have hi' := ih (i + 1) (by omega)
    rw [nI_succ] at hi'
    refine e_Tr_deepest_7 rfl ?_
    refine e_Tr_deepest_8 rfl ?_
    refine e_Tr_deepest_9 h1 rfl ?_
    refine e_Tr_deepest_12 (fun c1 => absurd c1 (nI_ge (by omega) (by omega))) (fun _ => ?_)
    refine e_Tr_deepest_15 rfl ?_
    refine e_Tr_deepest_16 h1 rfl ?_
    refine e_Tr_deepest_19 rfl ?_
    refine e_Tr_deepest_20 i h2 rfl (map_get hr) (by rw [List.length_map]; omega) ?_
    refine e_Tr_deepest_21 e1.1 rfl ?_
    refine e_Tr_deepest_24 rfl ?_
    refine e_Tr_deepest_25 i1 (by decide) (c_Pa_isBelow e1.2.1 hq s1 sq) (kp ?_) xn
    by_cases hb : bw es[i].1 q
    · rw [if_pos hb]
      rw [if_pos hb] at hst
      refine e_Tr_deepest_28 (fun c1 => absurd c1 (by decide)) (fun _ => ?_)
      refine e_Tr_deepest_31 rfl ?_
      refine e_Tr_deepest_32 rfl ?_
      refine e_Tr_deepest_33 h1 rfl ?_
      refine e_Tr_deepest_36 rfl ?_
      refine e_Tr_deepest_37 i h2 rfl (map_get hr) (by rw [List.length_map]; omega) ?_
      refine e_Tr_deepest_38 e1.1 rfl ?_
      refine e_Tr_deepest_41 i1 (Nat.le_of_ble_eq_true rfl) (c_Pa_names e1.2.1) (kp ?_) xn
      refine e_Tr_deepest_44 (by decide) ?_
      have em : (if nI (dpk q (es.take i)) < nI (nms es[i].1) then nI (nms es[i].1) else nI (dpk q (es.take i))) = nI (dpk q (es.take (i + 1))) := by
        rw [hst]
        by_cases g : dpk q (es.take i) < nms es[i].1
        · rw [if_pos (nI_lt g (by omega)), Nat.max_eq_right (by omega)]
        · rw [if_neg (nI_nlt (by omega) (by omega)), Nat.max_eq_left (by omega)]
      rw [em]
      refine e_Tr_deepest_47 (Nat.le_of_ble_eq_true rfl) ?_
      refine e_Tr_deepest_48 rfl ?_
      refine e_Tr_deepest_51  ?_
      exact hi' (by rw [hst]; exact Nat.max_le.mpr ⟨hd, hnm⟩)
    · rw [if_neg hb]
      rw [if_neg hb] at hst
      rw [hst] at hi'
      refine e_Tr_deepest_28 (fun _ => ?_) (fun c1 => absurd rfl c1)
      refine e_Tr_deepest_48 rfl ?_
      refine e_Tr_deepest_51  ?_
      exact hi' hd
theorem c_Tr_deepest (ht : tr h t es) (hs : sme es) (hq : pa h b q) (sq : sm q) : tv_Ct G mm_Tr_deepest [.ref t, .ref b] h 0 0 (rv (.int (nI (dpk q es))) (fun h' => h' = h ∧ dpk q es ≤ 20)) := by
  obtain ⟨_, i1, -⟩ := id hq
  refine tv_ct rfl (by decide +kernel) (by simp [Value.category]) (Nat.le_of_ble_eq_true rfl) ?_
  refine e_Tr_deepest_0 rfl ?_
  refine e_Tr_deepest_1 i1 (by decide) (c_Pa_names hq) (kp ?_) xn
  refine e_Tr_deepest_4 (Nat.le_of_ble_eq_true rfl) ?_
  refine e_Tr_deepest_5  ?_
  refine e_Tr_deepest_6 (Nat.le_of_ble_eq_true rfl) ?_
  exact l_Tr_deepest ht hs hq sq es.length 0 rfl (nms_le hq)
/-- what is at q1 may come to q2 -/
abbrev csh (es : List tE) (q1 q2 : List Nat) : Prop := fx es q1 ≠ none ∧ fx es q2 = none ∧ ¬ bw q2 q1 ∧ hpl es q2 ∧ dpk q1 es - nms q1 + nms q2 ≤ 4
theorem c_Tr_canShift (ht : tr h t es) (hs : sme es) (hq1 : pa h b1 q1) (hq2 : pa h b2 q2) (s1 : sm q1) (s2 : sm q2) (hn : q2 ≠ []) : tv_Ct G mm_Tr_canShift [.ref t, .ref b1, .ref b2] h 0 0 (rv (.int (if csh es q1 q2 then 1 else 0)) (fun h' => h' = h)) := by
  obtain ⟨rs, h1, -⟩ := ht.row
  obtain ⟨_, i1, -⟩ := id hq1
  obtain ⟨_, i2, -⟩ := id hq2
  have n1 := nms_le hq1
  have n2 := nms_le hq2
  have dg := dpk_ge (q := q1) es
  have no : ¬ csh es q1 q2 → ∀ ls, tv_Ev G mm_Tr_canShift 57 ls [] h 0 0 (rv (.int (if csh es q1 q2 then 1 else 0)) (fun h' => h' = h)) := by
    intro hc ls
    refine e_Tr_canShift_57  ?_
    exact e_Tr_canShift_58 (Or.inl rfl) ⟨by rw [if_neg hc], rfl⟩
  refine tv_ct rfl (by decide +kernel) (by simp [Value.category]) (Nat.le_of_ble_eq_true rfl) ?_
  refine e_Tr_canShift_0 rfl ?_
  refine e_Tr_canShift_1 rfl ?_
  refine e_Tr_canShift_2 h1 (by decide) (c_Tr_find ht hs hq1 s1) (kp ?_) xn
  refine e_Tr_canShift_5  ?_
  refine e_Tr_canShift_6 (fun c1 => ?_) (fun c1 => ?_)
  · exact no (fun q => q.1 ((ox_m1 (fx_small ht)).mp c1)) _
  · have g1 : fx es q1 ≠ none := fun g => c1 ((ox_m1 (fx_small ht)).mpr g)
    refine e_Tr_canShift_9 rfl ?_
    refine e_Tr_canShift_10 rfl ?_
    refine e_Tr_canShift_11 h1 (by decide) (c_Tr_find ht hs hq2 s2) (kp ?_) xn
    refine e_Tr_canShift_14  ?_
    refine e_Tr_canShift_15 (fun c2 => ?_) (fun c2 => ?_)
    · exact no (fun q => c2 ((ox_m1 (fx_small ht)).mpr q.2.1)) _
    · have g2 := (ox_m1 (fx_small ht)).mp c2
      refine e_Tr_canShift_18 rfl ?_
      refine e_Tr_canShift_19 rfl ?_
      refine e_Tr_canShift_20 i2 (by decide) (c_Pa_isBelow hq2 hq1 s2 s1) (kp ?_) xn
      by_cases g3 : bw q2 q1
      · rw [if_pos g3]
        refine e_Tr_canShift_23 (fun _ => ?_) (fun c3 => absurd c3 (by decide))
        exact no (fun q => q.2.2.1 g3) _
      · rw [if_neg g3]
        refine e_Tr_canShift_23 (fun c3 => absurd rfl c3) (fun _ => ?_)
        refine e_Tr_canShift_26 rfl ?_
        refine e_Tr_canShift_27 rfl ?_
        refine e_Tr_canShift_28 h1 (by decide) (c_Tr_hasPlaceFor ht hs hq2 s2 hn) (kp ?_) xn
        by_cases g4 : hpl es q2
        · rw [if_pos g4]
          refine e_Tr_canShift_31 (fun c4 => absurd c4 (by decide)) (fun _ => ?_)
          refine e_Tr_canShift_34 rfl ?_
          refine e_Tr_canShift_35 rfl ?_
          refine e_Tr_canShift_36 h1 (by decide) (c_Tr_deepest ht hs hq1 s1) (kv ?_) xn
          rintro h' ⟨rfl, hd⟩
          refine e_Tr_canShift_39 rfl ?_
          refine e_Tr_canShift_40 i1 (Nat.le_of_ble_eq_true rfl) (c_Pa_names hq1) (kp ?_) xn
          refine e_Tr_canShift_43  ?_
          refine e_Tr_canShift_44 rfl ?_
          refine e_Tr_canShift_45 i2 (Nat.le_of_ble_eq_true rfl) (c_Pa_names hq2) (kp ?_) xn
          have ea : nI (dpk q1 es) - nI (nms q1) + nI (nms q2) = nI (dpk q1 es - nms q1 + nms q2) := by rw [pk_sub dg, nI_add]
          refine e_Tr_canShift_48  ?_
          refine e_Tr_canShift_49  ?_
          rw [ea]
          refine e_Tr_canShift_50 (fun c5 => ?_) (fun c5 => ?_)
          · exact no (fun q => absurd c5 (nI_nlt (a := 4) q.2.2.2.2 (by decide))) _
          · have g5 : dpk q1 es - nms q1 + nms q2 ≤ 4 := by
              rcases Nat.lt_or_ge 4 (dpk q1 es - nms q1 + nms q2) with g | g
              · exact absurd (nI_lt g (by omega)) c5
              · exact g
            refine e_Tr_canShift_53  ?_
            refine e_Tr_canShift_54  ?_
            exact e_Tr_canShift_58 (Or.inr rfl) ⟨by rw [if_pos ⟨g1, g2, g3, g4, g5⟩], rfl⟩
        · rw [if_neg g4]
          refine e_Tr_canShift_31 (fun _ => ?_) (fun c4 => absurd rfl c4)
          exact no (fun q => g4 q.2.2.2.1) _
/-- an entry whose path begins with q1 comes to q2 -/
def mvp (q1 q2 : List Nat) (f : tE) : tE := if f.1 = q1 ∨ bw f.1 q1 then (q2 ++ f.1.drop q1.length, f.2) else f
/-- the rows from i on sink, one after the other -/
def sn (es : List tE) : Nat → List tE
  | 0 => es
  | i + 1 => match (sn es i)[i]? with
    | some x => Hl (sn es i) (se (sn es i) x.1 i) i x
    | none => sn es i
theorem sn_len (es : List tE) : ∀ i, (sn es i).length = es.length
  | 0 => rfl
  | i + 1 => by
    have ih := sn_len es i
    rw [sn]
    split
    · rename_i x hx
      rw [Hl_len (se_le _ _ _) (List.getElem?_eq_some_iff.mp hx).1, ih]
    · exact ih
theorem sn_mem (es : List tE) : ∀ i, (sn es i).Perm es
  | 0 => List.Perm.refl _
  | i + 1 => by
    have ih := sn_mem es i
    rw [sn]
    split
    · rename_i x hx
      exact (Hl_perm (se_le _ _ _) hx).trans ih
    · exact ih
theorem l_Tr_shift2 (hs : sme es) : ∀ j i, j + i = es.length → 1 ≤ i ∨ es = [] → ∀ hc g, tr hc t (sn es i) → fr (tS t) h hc → tv_Ev G mm_Tr_shift 57 [some (.ref t), some (.ref b1), some (.ref b2), some (.int (nI i)), g] [] hc c z (rn (fun h' => tr h' t (sn es es.length) ∧ fr (tS t) h h')) := by
  intro j
  induction j with
  | zero =>
    intro i hi _ hc g ht hf
    have hi : i = es.length := by omega
    subst hi
    have hl := ht.len
    rw [sn_len] at hl
    obtain ⟨rs, h1, -⟩ := ht.row
    rw [sn_len] at h1
    refine e_Tr_shift_57 rfl ?_
    refine e_Tr_shift_58 rfl ?_
    refine e_Tr_shift_59 h1 rfl ?_
    refine e_Tr_shift_62 (fun _ => ?_) (fun c1 => absurd (nI_le (Nat.le_refl _) (by omega)) c1)
    exact e_Tr_shift_77 ⟨rfl, ht, hf⟩
  | succ j ih =>
    intro i hi hi1 hc g ht hf
    have hl := ht.len
    rw [sn_len] at hl
    have hlen := sn_len es i
    obtain ⟨L, hL, hpre⟩ := id ht
    have h1 := hL.1
    have hLl : i < L.length := by have := hL.2.2.1; omega
    have hx : L[i]? = some L[i] := List.getElem?_eq_getElem hLl
    have hsm : ∀ (k : Nat) (x : Nat × tE), k < (sn es i).length → L[k]? = some x → sm x.2.1 := by
      intro k x hk hkx
      have h9 := snd_at hpre hk
      rw [hkx] at h9
      exact hs x.2 ((sn_mem es i).mem_iff.mp (List.mem_of_getElem? h9.symm))
    have hxe : (sn es i)[i]? = some L[i].2 := by
      rw [← snd_at hpre (by omega), hx]; rfl
    have esk : sk L L[i].2.1 i = se (sn es i) L[i].2.1 i := sk_se _ (fun k hk => snd_at hpre (by omega))
    have hsn : sn es (i + 1) = Hl (sn es i) (se (sn es i) L[i].2.1 i) i L[i].2 := by
      rw [sn]
      split
      · rename_i x hx9
        rw [hxe] at hx9
        cases hx9
        rfl
      · rename_i hx9
        rw [hxe] at hx9
        cases hx9
    rw [hlen] at h1
    refine e_Tr_shift_57 rfl ?_
    refine e_Tr_shift_58 rfl ?_
    refine e_Tr_shift_59 h1 rfl ?_
    refine e_Tr_shift_62 (fun c1 => absurd c1 (nI_ge (by omega) (by omega))) (fun _ => ?_)
    refine e_Tr_shift_65 rfl ?_
    refine e_Tr_shift_66 rfl ?_
    refine e_Tr_shift_67 h1 (by decide) (c_Tr_sinkRow hL (m := i) (by omega) hsm hx) (kv ?_) xn
    rintro hd ⟨hL2, fd⟩
    refine e_Tr_shift_70 rfl ?_
    refine e_Tr_shift_71 rfl ?_
    refine e_Tr_shift_74  ?_
    have htd : tr hd t (sn es (i + 1)) := by
      refine ⟨Hl L (se (sn es i) L[i].2.1 i) i L[i], ?_, ?_⟩
      · rw [sn_len, ← hlen, ← esk]
        exact hL2
      · rw [hsn]
        obtain ⟨r, hr⟩ := hpre
        have hle := se_le (sn es i) L[i].2.1 i
        refine ⟨r, ?_⟩
        rw [Hl_map, ← hr]
        unfold Hl
        have q1 : i + 1 ≤ (sn es i).length := by omega
        rw [List.take_append_of_le_length (by omega), List.drop_append_of_le_length (by omega), List.drop_append_of_le_length q1, List.take_append_of_le_length (by rw [List.length_drop]; omega)]
        simp
    have := ih (i + 1) (by omega) (Or.inl (by omega)) hd g htd (hf.tr (fd.mono (by rintro d rfl; exact ⟨by omega, by omega⟩)))
    rw [nI_succ] at this
    exact this
end
