/-! Tree: shift -/
section
variable {G : tv_G} {h h' : tv_H} {a b b1 b2 t u n e : Nat} {p q q1 q2 : List Nat} {c z : Nat} {es es2 : List tE} {L L' : List (Nat × tE)} {kd : Int32} {cs : List Nat}
theorem pre_set {α : Type} {l m : List α} (hp : l <+: m) (i : Nat) (x : α) (hi : i < l.length) : l.set i x <+: m.set i x := by
  obtain ⟨r, rfl⟩ := hp
  exact ⟨r, by rw [List.set_append_left _ _ hi]⟩
theorem tr.at (ht : tr h t es) {i : Nat} {f0 : tE} (hi : es[i]? = some f0) : ∃ (rs : List Nat) (r j : Nat), h[t]? = some (3, [.ref (t + 1), .int (nI es.length)]) ∧ h[t + 1]? = some (103, rs.map Value.ref) ∧ rs.length = 40 ∧ rs[i]? = some r ∧ en h r f0.1 f0.2.1 f0.2.2 ∧ j < 40 ∧ r = t + 2 + 4 * j ∧ ∀ (h' : tv_H) (f : tE), en h' r f.1 f.2.1 f.2.2 → fr (eS r) h h' → tr h' t (es.set i f) := by
  obtain ⟨L, hL, hpre⟩ := ht
  have hil := (List.getElem?_eq_some_iff.mp hi).1
  have h9 := pre_at hpre hil
  rw [hi, List.getElem?_map] at h9
  cases hx : L[i]? with
  | none => rw [hx] at h9; cases h9
  | some x =>
    rw [hx] at h9
    have h9 : x.2 = f0 := Option.some.inj h9
    subst h9
    obtain ⟨⟨j, hj, ej⟩, e2⟩ := hL.2.2.2.2.2 x (List.mem_of_getElem? hx)
    refine ⟨L.map Prod.fst, x.1, j, hL.1, by rw [List.map_map]; exact hL.2.1, by rw [List.length_map]; exact hL.2.2.1, by rw [List.getElem?_map, hx]; rfl, e2, hj, ej, fun h' f hf ff => ?_⟩
    refine ⟨L.set i (x.1, f), ?_, ?_⟩
    · rw [List.length_set]
      exact hL.upd hx hf ff
    · rw [List.map_set]
      exact pre_set hpre i f hil
theorem pa.kept_fr {S : Nat → Prop} (hp : pa h a p) (hf : fr S h h') (h1 : ¬ S a) (h2 : ¬ S (a + 1)) : pa h' a p := hp.kept (hf.2 _ h1) (hf.2 _ h2)
theorem en.path {h' : tv_H} {p' : List Nat} (he : en h e p kd cs) (hp : pa h' (e + 1) p') (hf : fr (pS (e + 1)) h h') : en h' e p' kd cs := by
  obtain ⟨h1, h2, bs, h3, h4⟩ := he
  exact ⟨(hf.2 _ (by rintro (q | q) <;> omega)).trans h1, hp, bs, (hf.2 _ (by rintro (q | q) <;> omega)).trans h3, h4⟩
theorem set_mid {α : Type} {l m : List α} {x y : α} {i : Nat} (hi : l.length = i) : (l ++ x :: m).set i y = l ++ y :: m := by
  subst hi
  rw [List.set_append_right _ _ (Nat.le_refl _), Nat.sub_self, List.set_cons_zero]
theorem mid_at {α : Type} {l m : List α} {x : α} {i : Nat} (hi : l.length = i) : (l ++ x :: m)[i]? = some x := by
  subst hi
  rw [List.getElem?_append_right (Nat.le_refl _), Nat.sub_self, List.getElem?_cons_zero]
theorem l_Tr_shift1 (hs : sme es) (hq1 : pa h b1 q1) (hq2 : pa h b2 q2) (s1 : sm q1) (n1 : ¬ tS t b1) (n11 : ¬ tS t (b1 + 1)) (n2 : ¬ tS t b2) (n21 : ¬ tS t (b2 + 1)) (hlen : ∀ f ∈ es, f.1 = q1 ∨ bw f.1 q1 → f.1.length - q1.length + q2.length ≤ 19) {Q : tv_R → tv_H → Prop} (hk : ∀ hc g, tr hc t (es.map (mvp q1 q2)) → fr (tS t) h hc → tv_Ev G mm_Tr_shift 55 [some (.ref t), some (.ref b1), some (.ref b2), some (.int (nI es.length)), g] [] hc c z Q) : ∀ j i, j + i = es.length → ∀ hc g, tr hc t ((es.take i).map (mvp q1 q2) ++ es.drop i) → fr (tS t) h hc → tv_Ev G mm_Tr_shift 2 [some (.ref t), some (.ref b1), some (.ref b2), some (.int (nI i)), g] [] hc c z Q := by
  intro j
  have hlen0 : ∀ i, i ≤ es.length → ((es.take i).map (mvp q1 q2) ++ es.drop i).length = es.length := by
    intro i hi
    simp
    omega
  induction j with
  | zero =>
    intro i hi hc g ht hf
    have hi : i = es.length := by omega
    subst hi
    have hl := ht.len
    obtain ⟨rs, h1, -⟩ := ht.row
    rw [hlen0 _ (Nat.le_refl _)] at h1 hl
    rw [List.take_length, List.drop_length, List.append_nil] at ht
    refine e_Tr_shift_2 rfl ?_
    refine e_Tr_shift_3 rfl ?_
    refine e_Tr_shift_4 h1 rfl ?_
    refine e_Tr_shift_7 (fun _ => ?_) (fun c1 => absurd (nI_le (Nat.le_refl _) (by omega)) c1)
    exact hk hc g ht hf
  | succ j ih =>
    intro i hi hc g ht hf
    have hl := ht.len
    rw [hlen0 _ (by omega)] at hl
    have hei : es[i]? = some es[i] := List.getElem?_eq_getElem (by omega)
    have hmem : es[i] ∈ es := List.getElem_mem _
    rw [drop_g hei] at ht
    have hlt : ((es.take i).map (mvp q1 q2)).length = i := by simp; omega
    obtain ⟨rs, r, jj, h1, h2, h3, hr, e1, hjj, hrj, up⟩ := tr.at ht (mid_at hlt)
    have hlm : ((es.take i).map (mvp q1 q2) ++ es[i] :: es.drop (i + 1)).length = es.length := by rw [← drop_g hei]; exact hlen0 _ (by omega)
    rw [hlm] at h1
    have p1 := hq1.kept_fr hf n1 n11
    have p2 := hq2.kept_fr hf n2 n21
    obtain ⟨_, i1, -⟩ := id p1
    obtain ⟨_, i2, -⟩ := id e1.2.1
    have sx := hs _ hmem
    have nxt : ∀ hd, tr hd t (((es.take i).map (mvp q1 q2) ++ es[i] :: es.drop (i + 1)).set i (mvp q1 q2 es[i])) → fr (tS t) h hd → ∀ g, tv_Ev G mm_Tr_shift 49 [some (.ref t), some (.ref b1), some (.ref b2), some (.int (nI i)), g] [] hd c z Q := by
      intro hd htd hfd g
      rw [set_mid hlt] at htd
      have e9 : (es.take (i + 1)).map (mvp q1 q2) ++ es.drop (i + 1) = (es.take i).map (mvp q1 q2) ++ mvp q1 q2 es[i] :: es.drop (i + 1) := by
        rw [take_g hei, List.map_append, List.append_assoc]; rfl
      rw [← e9] at htd
      have := ih (i + 1) (by omega) hd g htd hfd
      rw [nI_succ] at this
      refine e_Tr_shift_49 rfl ?_
      refine e_Tr_shift_52  ?_
      exact this
    have mv : es[i].1 = q1 ∨ bw es[i].1 q1 → tv_Ev G mm_Tr_shift 39 [some (.ref t), some (.ref b1), some (.ref b2), some (.int (nI i)), some (.ref (r + 1))] [] hc c z Q := by
      intro hm
      have hle : q1.length ≤ es[i].1.length := by
        rcases hm with g | g
        · rw [g]; exact Nat.le_refl _
        · have := (List.getElem?_eq_some_iff.mp g.1).1; omega
      refine e_Tr_shift_39 rfl ?_
      refine e_Tr_shift_41 rfl ?_
      refine e_Tr_shift_42 i1 rfl ?_
      refine e_Tr_shift_45 rfl ?_
      refine e_Tr_shift_46 i2 (by decide) (c_Pa_replaceStart e1.2.1 p2 (by rintro rfl; exact n2 ⟨by omega, by omega⟩) (by rintro rfl; exact n2 ⟨by omega, by omega⟩) (by intro q; apply n21; rw [q]; exact ⟨by omega, by omega⟩) hle (hlen _ hmem hm)) (kn ?_) xn
      rintro hd ⟨pd, fd⟩
      have em : mvp q1 q2 es[i] = (q2 ++ es[i].1.drop q1.length, es[i].2) := by unfold mvp; rw [if_pos hm]
      refine nxt hd ?_ (hf.tr (fd.mono (by rintro d (q | q) <;> exact ⟨by omega, by omega⟩))) _
      rw [em]
      exact up hd _ (en.path e1 pd fd) (fd.mono (by rintro d (q | q) <;> exact ⟨by omega, by omega⟩))
    refine e_Tr_shift_2 rfl ?_
    refine e_Tr_shift_3 rfl ?_
    refine e_Tr_shift_4 h1 rfl ?_
    refine e_Tr_shift_7 (fun c1 => absurd c1 (nI_ge (by omega) (by omega))) (fun _ => ?_)
    refine e_Tr_shift_10 rfl ?_
    refine e_Tr_shift_11 h1 rfl ?_
    refine e_Tr_shift_14 rfl ?_
    refine e_Tr_shift_15 i h2 rfl (map_get hr) (by rw [List.length_map]; omega) ?_
    refine e_Tr_shift_16 e1.1 rfl ?_
    refine e_Tr_shift_19 (Nat.le_of_ble_eq_true rfl) ?_
    refine e_Tr_shift_21 rfl ?_
    refine e_Tr_shift_23 rfl ?_
    refine e_Tr_shift_24 i2 (by decide) (c_Pa_isAt e1.2.1 p1 sx s1) (kp ?_) xn
    by_cases g1 : es[i].1 = q1
    · rw [if_pos g1]
      refine e_Tr_shift_27 (fun _ => ?_) (fun c1 => absurd c1 (by decide))
      exact mv (Or.inl g1)
    · rw [if_neg g1]
      refine e_Tr_shift_27 (fun c1 => absurd rfl c1) (fun _ => ?_)
      refine e_Tr_shift_30 rfl ?_
      refine e_Tr_shift_32 rfl ?_
      refine e_Tr_shift_33 i2 (by decide) (c_Pa_isBelow e1.2.1 p1 sx s1) (kp ?_) xn
      by_cases g2 : bw es[i].1 q1
      · rw [if_pos g2]
        refine e_Tr_shift_36 (fun c1 => absurd c1 (by decide)) (fun _ => ?_)
        exact mv (Or.inr g2)
      · rw [if_neg g2]
        refine e_Tr_shift_36 (fun _ => ?_) (fun c1 => absurd rfl c1)
        have em : mvp q1 q2 es[i] = es[i] := by unfold mvp; rw [if_neg]; rintro (g | g); exact g1 g; exact g2 g
        refine nxt hc ?_ hf _
        rw [em, set_mid hlt]
        exact ht
theorem sn_one (es : List tE) : sn es 1 = es := by
  rw [sn]
  split
  · rename_i x hx
    exact Hl_self hx
  · rfl
/-- what a tree is after a move -/
def sft (q1 q2 : List Nat) (es : List tE) : List tE := sn (es.map (mvp q1 q2)) es.length
theorem c_Tr_shift (ht : tr h t es) (hs : sme es) (hq1 : pa h b1 q1) (hq2 : pa h b2 q2) (s1 : sm q1) (s2 : sm q2) (n1 : ¬ tS t b1) (n11 : ¬ tS t (b1 + 1)) (n2 : ¬ tS t b2) (n21 : ¬ tS t (b2 + 1)) (hlen : ∀ f ∈ es, f.1 = q1 ∨ bw f.1 q1 → f.1.length - q1.length + q2.length ≤ 19) : tv_Ct G mm_Tr_shift [.ref t, .ref b1, .ref b2] h 0 0 (rn (fun h' => tr h' t (sft q1 q2 es) ∧ fr (tS t) h h')) := by
  have sm' : sme (es.map (mvp q1 q2)) := by
    intro f hf
    obtain ⟨g, hg, rfl⟩ := List.mem_map.mp hf
    have := hs g hg
    unfold mvp
    split
    · intro c hc
      rcases List.mem_append.mp hc with q | q
      · exact s2 c q
      · exact this c (List.mem_of_mem_drop q)
    · exact this
  have el : (es.map (mvp q1 q2)).length = es.length := List.length_map _
  refine tv_ct rfl (by decide +kernel) (by simp [Value.category]) (Nat.le_of_ble_eq_true rfl) ?_
  refine e_Tr_shift_0  ?_
  refine e_Tr_shift_1 (Nat.le_of_ble_eq_true rfl) ?_
  refine l_Tr_shift1 hs hq1 hq2 s1 n1 n11 n2 n21 hlen (fun hc g htc hfc => ?_) es.length 0 rfl h none ht fr.rf
  refine e_Tr_shift_55  ?_
  refine e_Tr_shift_56 (Nat.le_of_ble_eq_true rfl) ?_
  unfold sft
  rw [← el]
  rcases Nat.eq_zero_or_pos es.length with g0 | g0
  · have ee : es.map (mvp q1 q2) = [] := List.length_eq_zero_iff.mp (el.trans g0)
    have htc' := htc
    obtain ⟨rs, h1, -⟩ := id htc
    rw [ee] at htc ⊢
    obtain ⟨rs, h1, -⟩ := htc.row
    refine e_Tr_shift_57 rfl ?_
    refine e_Tr_shift_58 rfl ?_
    refine e_Tr_shift_59 h1 rfl ?_
    refine e_Tr_shift_62 (fun _ => ?_) (fun c1 => absurd (show nI 0 ≤ nI 1 by decide) c1)
    exact e_Tr_shift_77 ⟨rfl, htc, hfc⟩
  · exact l_Tr_shift2 sm' (es.length - 1) 1 (by rw [el]; omega) (Or.inl (Nat.le_refl 1)) hc g (by rw [sn_one]; exact htc) hfc
end
