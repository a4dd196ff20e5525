/-! Tree: become, perform, deepest, canShift -/
section
variable {G : tv_G} {h h' : tv_H} {a b t u n e : Nat} {p q q1 q2 : List Nat} {c z : Nat} {es es2 : List tE} {L L' : List (Nat × tE)} {kd : Int32} {cs : List Nat}
theorem c_Pa_become_self (hp : pa h a p) : tv_Ct G mm_Pa_become [.ref a, .ref a] h 0 0 (rn (fun h' => pa h' a p ∧ fr (pS a) h h')) := by
  obtain ⟨bs, h1, h2, h3, h4, h5, h6⟩ := id hp
  refine tv_ct rfl (by decide +kernel) (by simp [Value.category]) (Nat.le_of_ble_eq_true rfl) ?_
  refine e_Pa_become_0 rfl ?_
  refine e_Pa_become_1 h1 rfl ?_
  refine e_Pa_become_4  ?_
  refine e_Pa_become_5 rfl ?_
  refine e_Pa_become_6 h1 rfl ?_
  refine e_Pa_become_9  ?_
  refine e_Pa_become_10  ?_
  refine e_Pa_become_12 0 0 19 h2 h2 rfl rfl rfl (by simp; omega) (by simp; omega) (by simp; omega) (by simp; omega) (by intro v hv; obtain ⟨d, hd, rfl⟩ := List.mem_map.mp hv; exact h5 d hd) (by decide) ?_
  have e1 : tv_cpy (bs.map Value.int) (bs.map Value.int) 0 0 19 = bs.map Value.int := by
    have := tv_cpy_all (fs := bs.map Value.int) (gs := bs.map Value.int) rfl
    rw [List.length_map, h3] at this
    exact this
  rw [e1]
  have k2 : (h.set (a + 1) (100, bs.map Value.int))[a]? = some (2, [.ref (a + 1), .int (nI p.length)]) := gs_ne h1 (by omega)
  refine e_Pa_become_15 rfl ?_
  refine e_Pa_become_16 rfl ?_
  refine e_Pa_become_17 k2 rfl ?_
  refine e_Pa_become_20 k2 (Nat.le_of_ble_eq_true rfl) ?_
  exact e_Pa_become_23 ⟨rfl, ⟨bs, gs_eq k2, gs_ne (gs_eq h2) (by omega), h3, h4, h5, h6⟩, (fr.set (Or.inr rfl)).tr (fr.set (Or.inl rfl))⟩
theorem c_En_become_self (he : en h e p kd cs) : tv_Ct G mm_En_become [.ref e, .ref e] h 0 0 (rn (fun h' => en h' e p kd cs ∧ fr (eS e) h h')) := by
  obtain ⟨h1, hp, bs, h2, h3, h4, h5, h6⟩ := he
  obtain ⟨_, i1, -⟩ := id hp
  refine tv_ct rfl (by decide +kernel) (by simp [Value.category]) (Nat.le_of_ble_eq_true rfl) ?_
  refine e_En_become_0 rfl ?_
  refine e_En_become_1 h1 rfl ?_
  refine e_En_become_4 rfl ?_
  refine e_En_become_5 h1 rfl ?_
  refine e_En_become_8 i1 (by decide) (c_Pa_become_self hp) (kn ?_) xn
  rintro h' ⟨p', f'⟩
  have n0 : ∀ d : Nat, d ≠ e + 1 → d ≠ e + 2 → h'[d]? = h[d]? := fun d a1 a2 => f'.2 d (by rintro (q | q) <;> omega)
  have j1 := (n0 e (by omega) (by omega)).trans h1
  have j2 := (n0 (e + 3) (by omega) (by omega)).trans h2
  refine e_En_become_11 rfl ?_
  refine e_En_become_12 rfl ?_
  refine e_En_become_13 j1 rfl ?_
  refine e_En_become_16 j1 (Nat.le_of_ble_eq_true rfl) ?_
  have n1 : ∀ d : Nat, d ≠ e → ∀ (u : tv_E), (h'.set e u)[d]? = h'[d]? := fun d hd u => gs_ne rfl (Ne.symm hd)
  have j1' := gs_eq (e := (0, [Value.ref (e + 1), .int kd, .ref (e + 3), .int (nI cs.length)])) j1
  have j2' := (n1 (e + 3) (by omega) (0, [Value.ref (e + 1), .int kd, .ref (e + 3), .int (nI cs.length)])).trans j2
  refine e_En_become_19 rfl ?_
  refine e_En_become_20 j1' rfl ?_
  refine e_En_become_23  ?_
  refine e_En_become_24 rfl ?_
  refine e_En_become_25 j1' rfl ?_
  refine e_En_become_28  ?_
  refine e_En_become_29  ?_
  refine e_En_become_31 0 0 16 j2' j2' rfl rfl rfl (by simp; omega) (by simp; omega) (by simp; omega) (by simp; omega) (by intro v hv; obtain ⟨d, hd, rfl⟩ := List.mem_map.mp hv; exact h5 d hd) (by decide) ?_
  have e1 : tv_cpy (bs.map Value.int) (bs.map Value.int) 0 0 16 = bs.map Value.int := by
    have := tv_cpy_all (fs := bs.map Value.int) (gs := bs.map Value.int) rfl
    rw [List.length_map, h3] at this
    exact this
  rw [e1]
  have j1'' := gs_ne (a := e + 3) (e := (100, bs.map Value.int)) j1' (by omega)
  refine e_En_become_34 rfl ?_
  refine e_En_become_35 rfl ?_
  refine e_En_become_36 j1'' rfl ?_
  refine e_En_become_39 j1'' (Nat.le_of_ble_eq_true rfl) ?_
  refine e_En_become_42 ⟨rfl, ⟨gs_eq j1'', p'.kept (gs_ne (gs_ne (gs_ne rfl (by omega)) (by omega)) (by omega)) (gs_ne (gs_ne (gs_ne rfl (by omega)) (by omega)) (by omega)), bs, gs_ne (gs_eq j2') (by omega), h3, h4, h5, h6⟩, ?_⟩
  exact (((f'.mono (S' := eS e) (by rintro d (q | q) <;> exact ⟨by omega, by omega⟩)).tr (fr.set ⟨by omega, by omega⟩)).tr (fr.set ⟨by omega, by omega⟩)).tr (fr.set ⟨by omega, by omega⟩)
theorem l_Tr_become (hu : tr h u es2) (dis : ∀ b, tS u b → ¬ tS t b) : ∀ j i, j + i = es2.length → ∀ hc Lc, tq hc t n Lc → fr (tS t) h hc → (Lc.map Prod.snd).take i = es2.take i → tv_Ev G mm_Tr_become 2 [some (.ref t), some (.ref u), some (.int (nI i))] [] hc c z (rn (fun h' => tr h' t es2 ∧ fr (tS t) h h')) := by
  have hl2 := hu.len
  intro j
  induction j with
  | zero =>
    intro i hi hc Lc hL hf htk
    have hi : i = es2.length := by omega
    subst hi
    obtain ⟨L2, hL2, -⟩ := hu.kept hf dis
    have k1 := hL2.1
    have h1 := hL.1
    refine e_Tr_become_2 rfl ?_
    refine e_Tr_become_3 rfl ?_
    refine e_Tr_become_4 k1 rfl ?_
    refine e_Tr_become_7 (fun _ => ?_) (fun c1 => absurd (nI_le (Nat.le_refl _) (by omega)) c1)
    refine e_Tr_become_31 rfl ?_
    refine e_Tr_become_32 rfl ?_
    refine e_Tr_become_33 k1 rfl ?_
    refine e_Tr_become_36 h1 (Nat.le_of_ble_eq_true rfl) ?_
    rw [List.take_length] at htk
    refine e_Tr_become_39 ⟨rfl, ⟨Lc, hL.cnt hl2, ?_⟩, hf.tr (fr.set ⟨by omega, by omega⟩)⟩
    rw [← htk]
    exact List.take_prefix _ _
  | succ j ih =>
    intro i hi hc Lc hL hf htk
    obtain ⟨L2, hL2, hpre2⟩ := hu.kept hf dis
    obtain ⟨h1, h2, h3, h4, h5, h6⟩ := id hL
    obtain ⟨k1, k2, k3, k4, k5, k6⟩ := id hL2
    have hx : Lc[i]? = some Lc[i] := List.getElem?_eq_getElem (by omega)
    have hy : L2[i]? = some L2[i] := List.getElem?_eq_getElem (by omega)
    obtain ⟨e1, j1, hj1, ej1⟩ := en_m hL hx
    obtain ⟨e2, j2, hj2, ej2⟩ := en_m hL2 hy
    have hei : es2[i]? = some L2[i].2 := by rw [← snd_at hpre2 (by omega), hy]; rfl
    have d1 : L2[i].1 > Lc[i].1 + 3 ∨ Lc[i].1 > L2[i].1 + 3 := by
      have q1 := dis L2[i].1 ⟨by omega, by omega⟩
      have q2 := dis (L2[i].1 + 3) ⟨by omega, by omega⟩
      have q3 := dis u ⟨by omega, by omega⟩
      have q4 := dis (u + 161) ⟨by omega, by omega⟩
      simp only [tS, not_and, Nat.not_lt] at q1 q2 q3 q4
      rcases Nat.lt_or_ge L2[i].1 t with g | g
      · have := dis (L2[i].1 + 3) ⟨by omega, by omega⟩
        simp only [tS, not_and, Nat.not_lt] at this
        omega
      · have := q1 g
        omega
    refine e_Tr_become_2 rfl ?_
    refine e_Tr_become_3 rfl ?_
    refine e_Tr_become_4 k1 rfl ?_
    refine e_Tr_become_7 (fun c1 => absurd c1 (nI_ge (by omega) (by omega))) (fun _ => ?_)
    refine e_Tr_become_10 rfl ?_
    refine e_Tr_become_11 h1 rfl ?_
    refine e_Tr_become_14 rfl ?_
    refine e_Tr_become_15 i h2 rfl (by rw [List.getElem?_map, hx]; rfl) (by rw [List.length_map]; omega) ?_
    refine e_Tr_become_16 rfl ?_
    refine e_Tr_become_17 k1 rfl ?_
    refine e_Tr_become_20 rfl ?_
    refine e_Tr_become_21 i k2 rfl (by rw [List.getElem?_map, hy]; rfl) (by rw [List.length_map]; omega) ?_
    refine e_Tr_become_22 e1.1 (by decide) (c_En_become e1 e2 d1) (kn ?_) xn
    rintro hd ⟨ed, fd⟩
    have hL' := hL.upd hx (f := L2[i].2) ed fd
    refine e_Tr_become_25 rfl ?_
    refine e_Tr_become_28  ?_
    have := ih (i + 1) (by omega) hd _ hL' (hf.tr (fd.mono (by rintro d ⟨g1, g2⟩; exact ⟨by omega, by omega⟩))) (by
      have q1 : ((Lc.set i (Lc[i].1, L2[i].2)).map Prod.snd)[i]? = some L2[i].2 := by
        rw [List.getElem?_map, List.getElem?_set_self (by omega)]; rfl
      rw [take_g q1, take_g hei, ← htk, List.map_set, List.take_set_of_le (Nat.le_refl i)])
    rw [nI_succ] at this
    exact this
theorem c_Tr_become (ht : tr h t es) (hu : tr h u es2) (dis : ∀ b, tS u b → ¬ tS t b) : tv_Ct G mm_Tr_become [.ref t, .ref u] h 0 0 (rn (fun h' => tr h' t es2 ∧ fr (tS t) h h')) := by
  obtain ⟨L, hL, -⟩ := ht
  refine tv_ct rfl (by decide +kernel) (by simp [Value.category]) (Nat.le_of_ble_eq_true rfl) ?_
  refine e_Tr_become_0  ?_
  refine e_Tr_become_1 (Nat.le_of_ble_eq_true rfl) ?_
  exact l_Tr_become hu dis es2.length 0 rfl h L hL fr.rf rfl
theorem l_Tr_become_self : ∀ j i, j + i = es.length → ∀ hc, tr hc t es → fr (tS t) h hc → tv_Ev G mm_Tr_become 2 [some (.ref t), some (.ref t), some (.int (nI i))] [] hc c z (rn (fun h' => tr h' t es ∧ fr (tS t) h h')) := by
  intro j
  induction j with
  | zero =>
    intro i hi hc ht hf
    have hi : i = es.length := by omega
    subst hi
    have hl := ht.len
    obtain ⟨L, hL, hpre⟩ := id ht
    have h1 := hL.1
    refine e_Tr_become_2 rfl ?_
    refine e_Tr_become_3 rfl ?_
    refine e_Tr_become_4 h1 rfl ?_
    refine e_Tr_become_7 (fun _ => ?_) (fun c1 => absurd (nI_le (Nat.le_refl _) (by omega)) c1)
    refine e_Tr_become_31 rfl ?_
    refine e_Tr_become_32 rfl ?_
    refine e_Tr_become_33 h1 rfl ?_
    refine e_Tr_become_36 h1 (Nat.le_of_ble_eq_true rfl) ?_
    exact e_Tr_become_39 ⟨rfl, ⟨L, hL.cnt hl, hpre⟩, hf.tr (fr.set ⟨by omega, by omega⟩)⟩
  | succ j ih =>
    intro i hi hc ht hf
    have hl := ht.len
    obtain ⟨L, hL, hpre⟩ := id ht
    obtain ⟨h1, h2, h3, h4, h5, h6⟩ := id hL
    have hx : L[i]? = some L[i] := List.getElem?_eq_getElem (by omega)
    obtain ⟨e1, j1, hj1, ej1⟩ := en_m hL hx
    refine e_Tr_become_2 rfl ?_
    refine e_Tr_become_3 rfl ?_
    refine e_Tr_become_4 h1 rfl ?_
    refine e_Tr_become_7 (fun c1 => absurd c1 (nI_ge (by omega) (by omega))) (fun _ => ?_)
    refine e_Tr_become_10 rfl ?_
    refine e_Tr_become_11 h1 rfl ?_
    refine e_Tr_become_14 rfl ?_
    refine e_Tr_become_15 i h2 rfl (by rw [List.getElem?_map, hx]; rfl) (by rw [List.length_map]; omega) ?_
    refine e_Tr_become_16 rfl ?_
    refine e_Tr_become_17 h1 rfl ?_
    refine e_Tr_become_20 rfl ?_
    refine e_Tr_become_21 i h2 rfl (by rw [List.getElem?_map, hx]; rfl) (by rw [List.length_map]; omega) ?_
    refine e_Tr_become_22 e1.1 (by decide) (c_En_become_self e1) (kn ?_) xn
    rintro hd ⟨ed, fd⟩
    have hL' := hL.upd hx (f := L[i].2) ed fd
    rw [show L.set i (L[i].1, L[i].2) = L from List.set_getElem_self _] at hL'
    refine e_Tr_become_25 rfl ?_
    refine e_Tr_become_28  ?_
    have := ih (i + 1) (by omega) hd ⟨L, hL', hpre⟩ (hf.tr (fd.mono (by rintro d ⟨g1, g2⟩; exact ⟨by omega, by omega⟩)))
    rw [nI_succ] at this
    exact this
theorem c_Tr_become_self (ht : tr h t es) : tv_Ct G mm_Tr_become [.ref t, .ref t] h 0 0 (rn (fun h' => tr h' t es ∧ fr (tS t) h h')) := by
  refine tv_ct rfl (by decide +kernel) (by simp [Value.category]) (Nat.le_of_ble_eq_true rfl) ?_
  refine e_Tr_become_0  ?_
  refine e_Tr_become_1 (Nat.le_of_ble_eq_true rfl) ?_
  exact l_Tr_become_self es.length 0 rfl h ht fr.rf
/-- an item done on a list, if it can be -/
def pf (es : List tE) (f : tE) : Option (List tE) :=
  if f.2.1 = 1 then (if hpl es f.1 ∧ ¬ (fx es f.1 = none ∧ es.length = 40) then some (pu es f) else none)
  else if f.2.1 = 2 then (if hpl es f.1 ∧ ¬ (fx es f.1 = none ∧ es.length = 40) then some (dr f.1 false (pu es f)) else none)
  else if f.2.1 = 3 then (if fx es f.1 = none then none else some (dr f.1 true es))
  else if f.2.1 = 4 then (if kx es f.1 = 1 then some (dr f.1 false es) else none)
  else none
theorem pu_sme {f : tE} (hs : sme es) (hf : sm f.1) : sme (pu es f) := by
  unfold pu
  split
  · intro g hg
    rcases List.mem_or_eq_of_mem_set hg with h9 | h9
    · exact hs g h9
    · rw [h9]; exact hf
  · split
    · exact hs
    · intro g hg
      unfold iat at hg
      rcases List.mem_append.mp hg with h9 | h9
      · exact hs g (List.mem_of_mem_take h9)
      · rcases List.mem_cons.mp h9 with h9 | h9
        · rw [h9]; exact hf
        · exact hs g (List.mem_of_mem_drop h9)
theorem c_Tr_perform {kn_ : Nat} (hk1 : 1 ≤ kn_) (hk4 : kn_ ≤ 4) (ht : tr h t es) (hs : sme es) (he : en h e p (nI kn_) cs) (sp : sm p) (hn : p ≠ []) (nb : ∀ d, eS e d → ¬ tS t d) : tv_Ct G mm_Tr_perform [.ref t, .ref e] h 0 0 (rv (.int (if pf es (p, nI kn_, cs) = none then 0 else 1)) (fun h' => (∃ es', tr h' t es' ∧ ∀ es'', pf es (p, nI kn_, cs) = some es'' → es' = es'') ∧ fr (tS t) h h')) := by
  obtain ⟨rs, r1, -⟩ := ht.row
  have n1 : e + 1 ≠ t + 1 := by
    intro g
    exact nb e ⟨by omega, by omega⟩ ⟨by omega, by omega⟩
  have n2 : e + 1 ≠ t := by
    intro g
    exact nb (e + 1) ⟨by omega, by omega⟩ ⟨by omega, by omega⟩
  have same : ∀ es'' : List tE, ∃ es', es' = es'' ∧ ∀ x : List tE, some es'' = some x → es' = x := fun es'' => ⟨es'', rfl, fun x hx => Option.some.inj hx⟩
  refine tv_ct rfl (by decide +kernel) (by simp [Value.category]) (Nat.le_of_ble_eq_true rfl) ?_
  refine e_Tr_perform_0 rfl ?_
  refine e_Tr_perform_1 he.1 rfl ?_
  rcases (show kn_ = 1 ∨ kn_ = 2 ∨ kn_ = 3 ∨ kn_ = 4 by omega) with rfl | rfl | rfl | rfl
  · have hpf : pf es (p, nI 1, cs) = if hpl es p ∧ ¬ (fx es p = none ∧ es.length = 40) then some (pu es (p, nI 1, cs)) else none := by
      unfold pf; rw [if_pos (by rfl)]
    refine e_Tr_perform_4_1 ?_
    refine e_Tr_perform_36 rfl ?_
    refine e_Tr_perform_37 rfl ?_
    refine e_Tr_perform_38 he.1 rfl ?_
    refine e_Tr_perform_41 r1 (by decide) (c_Tr_hasPlaceFor ht hs he.2.1 sp hn) (kp ?_) xn
    by_cases g1 : hpl es p
    · rw [if_pos g1]
      refine e_Tr_perform_44 (fun c1 => absurd c1 (by decide)) (fun _ => ?_)
      refine e_Tr_perform_47 rfl ?_
      refine e_Tr_perform_48 rfl ?_
      refine e_Tr_perform_49 r1 (by decide) (c_Tr_put ht hs he sp nb) (kv ?_) xn
      rintro h' ⟨t', f'⟩
      by_cases g2 : fx es p = none ∧ es.length = 40
      · rw [if_pos g2]
        rw [hpf, if_neg (show ¬ (hpl es p ∧ ¬ (fx es p = none ∧ es.length = 40)) from fun q => q.2 g2)]
        refine e_Tr_perform_52 (fun _ => ?_) (fun c1 => absurd rfl c1)
        refine e_Tr_perform_59  ?_
        exact e_Tr_perform_60 (Or.inl rfl) ⟨rfl, ⟨_, t', fun x hx => by cases hx⟩, f'⟩
      · rw [if_neg g2]
        rw [hpf, if_pos (show hpl es p ∧ ¬ (fx es p = none ∧ es.length = 40) from ⟨g1, g2⟩)]
        refine e_Tr_perform_52 (fun c1 => absurd c1 (by decide)) (fun _ => ?_)
        refine e_Tr_perform_55  ?_
        refine e_Tr_perform_56  ?_
        exact e_Tr_perform_60 (Or.inr rfl) ⟨rfl, ⟨_, t', fun x hx => Option.some.inj hx⟩, f'⟩
    · rw [if_neg g1]
      rw [hpf, if_neg (show ¬ (hpl es p ∧ ¬ (fx es p = none ∧ es.length = 40)) from fun q => g1 q.1)]
      refine e_Tr_perform_44 (fun _ => ?_) (fun c1 => absurd rfl c1)
      refine e_Tr_perform_59  ?_
      exact e_Tr_perform_60 (Or.inl rfl) ⟨rfl, ⟨_, ht, fun x hx => by cases hx⟩, fr.rf⟩
  · have hpf : pf es (p, nI 2, cs) = if hpl es p ∧ ¬ (fx es p = none ∧ es.length = 40) then some (dr p false (pu es (p, nI 2, cs))) else none := by
      unfold pf; rw [if_neg (by show ¬ nI 2 = 1; decide), if_pos (by rfl)]
    refine e_Tr_perform_4_2 ?_
    refine e_Tr_perform_61 rfl ?_
    refine e_Tr_perform_62 rfl ?_
    refine e_Tr_perform_63 he.1 rfl ?_
    refine e_Tr_perform_66 r1 (by decide) (c_Tr_hasPlaceFor ht hs he.2.1 sp hn) (kp ?_) xn
    by_cases g1 : hpl es p
    · rw [if_pos g1]
      refine e_Tr_perform_69 (fun c1 => absurd c1 (by decide)) (fun _ => ?_)
      refine e_Tr_perform_72 rfl ?_
      refine e_Tr_perform_73 rfl ?_
      refine e_Tr_perform_74 r1 (by decide) (c_Tr_put ht hs he sp nb) (kv ?_) xn
      rintro h' ⟨t', f'⟩
      by_cases g2 : fx es p = none ∧ es.length = 40
      · rw [if_pos g2]
        rw [hpf, if_neg (show ¬ (hpl es p ∧ ¬ (fx es p = none ∧ es.length = 40)) from fun q => q.2 g2)]
        refine e_Tr_perform_77 (fun c1 => absurd rfl c1) (fun _ => ?_)
        refine e_Tr_perform_80  ?_
        exact e_Tr_perform_81 (Or.inl rfl) ⟨rfl, ⟨_, t', fun x hx => by cases hx⟩, f'⟩
      · rw [if_neg g2]
        rw [hpf, if_pos (show hpl es p ∧ ¬ (fx es p = none ∧ es.length = 40) from ⟨g1, g2⟩)]
        have e' := he.kept f' nb
        obtain ⟨rs', r1', -⟩ := t'.row
        refine e_Tr_perform_77 (fun _ => ?_) (fun c1 => absurd c1 (by decide))
        refine e_Tr_perform_82 rfl ?_
        refine e_Tr_perform_83 rfl ?_
        refine e_Tr_perform_84 e'.1 rfl ?_
        refine e_Tr_perform_87  ?_
        refine e_Tr_perform_88 r1' (by decide) (c_Tr_drop false t' (pu_sme hs sp) e'.2.1 sp n1 n2) (kn ?_) xn
        rintro h'' ⟨t'', f''⟩
        refine e_Tr_perform_91  ?_
        exact e_Tr_perform_92 (Or.inr rfl) ⟨rfl, ⟨_, t'', fun x hx => Option.some.inj hx⟩, f'.tr (f''.mono (by rintro d (rfl | rfl) <;> exact ⟨by omega, by omega⟩))⟩
    · rw [if_neg g1]
      rw [hpf, if_neg (show ¬ (hpl es p ∧ ¬ (fx es p = none ∧ es.length = 40)) from fun q => g1 q.1)]
      refine e_Tr_perform_69 (fun _ => ?_) (fun c1 => absurd rfl c1)
      refine e_Tr_perform_80  ?_
      exact e_Tr_perform_81 (Or.inl rfl) ⟨rfl, ⟨_, ht, fun x hx => by cases hx⟩, fr.rf⟩
  · have hpf : pf es (p, nI 3, cs) = if fx es p = none then none else some (dr p true es) := by
      unfold pf; rw [if_neg (by show ¬ nI 3 = 1; decide), if_neg (by show ¬ nI 3 = 2; decide), if_pos (by rfl)]
    refine e_Tr_perform_4_3 ?_
    refine e_Tr_perform_93 rfl ?_
    refine e_Tr_perform_94 rfl ?_
    refine e_Tr_perform_95 he.1 rfl ?_
    refine e_Tr_perform_98 r1 (by decide) (c_Tr_find ht hs he.2.1 sp) (kp ?_) xn
    refine e_Tr_perform_101  ?_
    refine e_Tr_perform_102 (fun c1 => ?_) (fun c1 => ?_)
    · have g1 : fx es p ≠ none := fun g => c1 ((ox_m1 (fx_small ht)).mpr g)
      rw [hpf, if_neg g1]
      refine e_Tr_perform_107 rfl ?_
      refine e_Tr_perform_108 rfl ?_
      refine e_Tr_perform_109 he.1 rfl ?_
      refine e_Tr_perform_112  ?_
      refine e_Tr_perform_113 r1 (by decide) (c_Tr_drop true ht hs he.2.1 sp n1 n2) (kn ?_) xn
      rintro h'' ⟨t'', f''⟩
      refine e_Tr_perform_116  ?_
      exact e_Tr_perform_117 (Or.inr rfl) ⟨rfl, ⟨_, t'', fun x hx => Option.some.inj hx⟩, f''.mono (by rintro d (rfl | rfl) <;> exact ⟨by omega, by omega⟩)⟩
    · have g1 := (ox_m1 (fx_small ht)).mp c1
      rw [hpf, if_pos g1]
      refine e_Tr_perform_105  ?_
      exact e_Tr_perform_106 (Or.inl rfl) ⟨rfl, ⟨_, ht, fun x hx => by cases hx⟩, fr.rf⟩
  · have hpf : pf es (p, nI 4, cs) = if kx es p = 1 then some (dr p false es) else none := by
      unfold pf; rw [if_neg (by show ¬ nI 4 = 1; decide), if_neg (by show ¬ nI 4 = 2; decide), if_neg (by show ¬ nI 4 = 3; decide), if_pos (by rfl)]
    refine e_Tr_perform_4_4 ?_
    refine e_Tr_perform_118 rfl ?_
    refine e_Tr_perform_119 rfl ?_
    refine e_Tr_perform_120 he.1 rfl ?_
    refine e_Tr_perform_123 r1 (by decide) (c_Tr_kindOf ht hs he.2.1 sp) (kp ?_) xn
    refine e_Tr_perform_126  ?_
    refine e_Tr_perform_127 (fun c1 => ?_) (fun c1 => ?_)
    · rw [hpf, if_pos c1]
      refine e_Tr_perform_132 rfl ?_
      refine e_Tr_perform_133 rfl ?_
      refine e_Tr_perform_134 he.1 rfl ?_
      refine e_Tr_perform_137  ?_
      refine e_Tr_perform_138 r1 (by decide) (c_Tr_drop false ht hs he.2.1 sp n1 n2) (kn ?_) xn
      rintro h'' ⟨t'', f''⟩
      refine e_Tr_perform_141  ?_
      exact e_Tr_perform_142 (Or.inr rfl) ⟨rfl, ⟨_, t'', fun x hx => Option.some.inj hx⟩, f''.mono (by rintro d (rfl | rfl) <;> exact ⟨by omega, by omega⟩)⟩
    · rw [hpf, if_neg c1]
      refine e_Tr_perform_130  ?_
      exact e_Tr_perform_131 (Or.inl rfl) ⟨rfl, ⟨_, ht, fun x hx => by cases hx⟩, fr.rf⟩
end
