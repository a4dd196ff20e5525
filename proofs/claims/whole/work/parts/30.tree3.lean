/-! Tree: openRow, put, drop -/
/-- f put into es at k -/
def iat (es : List tE) (k : Nat) (f : tE) : List tE := es.take k ++ f :: es.drop k
/-- how many entries stand before a path that goes to the end and sinks -/
def se (es : List tE) (p : List Nat) : Nat → Nat
  | 0 => 0
  | j + 1 => match es[j]? with
    | some g => if p < g.1 then se es p j else j + 1
    | none => j + 1
theorem sk_se {L : List (Nat × tE)} {es : List tE} {p : List Nat} : ∀ j, (∀ i, i < j → (L[i]?).map Prod.snd = es[i]?) → sk L p j = se es p j
  | 0, _ => rfl
  | j + 1, h => by
    have h1 := h j (by omega)
    rw [sk, se]
    cases hL : L[j]? with
    | none => rw [hL] at h1; rw [← h1]; rfl
    | some g =>
      rw [hL] at h1
      rw [← h1]
      show (if p < g.2.1 then sk L p j else j + 1) = if p < g.2.1 then se es p j else j + 1
      rw [sk_se j (fun i hi => h i (by omega))]
theorem se_le (es : List tE) (p : List Nat) : ∀ j, se es p j ≤ j
  | 0 => Nat.le_refl 0
  | j + 1 => by
    have := se_le es p j
    rw [se]
    split
    · split <;> omega
    · omega
theorem en_m {h : tv_H} {t n : Nat} {L : List (Nat × tE)} (ht : tq h t n L) {i : Nat} {x : Nat × tE} (hx : L[i]? = some x) : en h x.1 x.2.1 x.2.2.1 x.2.2.2 ∧ ∃ j, j < 40 ∧ x.1 = t + 2 + 4 * j := ⟨(ht.2.2.2.2.2 x (List.mem_of_getElem? hx)).2, (ht.2.2.2.2.2 x (List.mem_of_getElem? hx)).1⟩
theorem snd_at {L : List (Nat × tE)} {es : List tE} (hp : es <+: L.map Prod.snd) {i : Nat} (hi : i < es.length) : (L[i]?).map Prod.snd = es[i]? := by
  rw [← List.getElem?_map, pre_at hp hi]
theorem iat_pre {L : List (Nat × tE)} {es : List tE} (hp : es <+: L.map Prod.snd) {k : Nat} (hk : k ≤ es.length) {x : Nat × tE} : iat es k x.2 <+: (Hl L k es.length x).map Prod.snd := by
  obtain ⟨r, hr⟩ := hp
  have h1 : (L.map Prod.snd).take k = es.take k := by rw [← hr, List.take_append_of_le_length hk]
  have h2 : ((L.map Prod.snd).drop k).take (es.length - k) = es.drop k := by
    rw [← hr, List.drop_append_of_le_length hk, List.take_append_of_le_length (by simp), List.take_of_length_le (by simp)]
  refine ⟨(L.map Prod.snd).drop (es.length + 1), ?_⟩
  rw [Hl_map]
  unfold Hl iat
  rw [h1, h2]
  simp
section
variable {G : tv_G} {h h' : tv_H} {a b t n e : Nat} {p q : List Nat} {c z : Nat} {es : List tE} {L L' : List (Nat × tE)} {kd : Int32} {cs : List Nat}
theorem c_Tr_openRow (ht : tr h t es) (hs : sme es) (hl : es.length < 40) (hq : pa h b q) (sq : sm q) (nb : ¬ tS t b) (nb1 : ¬ tS t (b + 1)) : tv_Ct G mm_Tr_openRow [.ref t, .ref b] h 0 0 (rv (.int (nI (se es q es.length))) (fun h' => tr h' t (iat es (se es q es.length) (q, -1, [])) ∧ fr (tS t) h h')) := by
  obtain ⟨L, hL, hpre⟩ := id ht
  obtain ⟨h1, h2, h3, h4, h5, h6⟩ := id hL
  have hx : L[es.length]? = some L[es.length] := List.getElem?_eq_getElem (by omega)
  obtain ⟨e1, j1, hj1, ej1⟩ := en_m hL hx
  refine tv_ct rfl (by decide +kernel) (by simp [Value.category]) (Nat.le_of_ble_eq_true rfl) ?_
  refine e_Tr_openRow_0 rfl ?_
  refine e_Tr_openRow_1 h1 (by decide) (c_Tr_isFull ht) (kp ?_) xn
  rw [if_neg (by omega)]
  refine e_Tr_openRow_4 (fun _ => ?_) (fun c1 => absurd rfl c1)
  refine e_Tr_openRow_9 rfl ?_
  refine e_Tr_openRow_10 h1 rfl ?_
  refine e_Tr_openRow_13 rfl ?_
  refine e_Tr_openRow_14 h1 rfl ?_
  refine e_Tr_openRow_17 es.length h2 rfl (by rw [List.getElem?_map, hx]; rfl) (by rw [List.length_map]; omega) ?_
  refine e_Tr_openRow_18 rfl ?_
  refine e_Tr_openRow_19  ?_
  refine e_Tr_openRow_20 e1.1 (by decide) (c_En_begin e1 hq (by rintro ⟨g1, g2⟩; exact nb ⟨by omega, by omega⟩) (x := -1)) (kn ?_) xn
  rintro h' ⟨en', f'⟩
  have hL1 := hL.upd hx (f := (q, -1, [])) en' f'
  have f1 : fr (tS t) h h' := f'.mono (by rintro d ⟨g1, g2⟩; exact ⟨by omega, by omega⟩)
  have g1 := hL1.1
  refine e_Tr_openRow_23 rfl ?_
  refine e_Tr_openRow_24 rfl ?_
  refine e_Tr_openRow_25 g1 rfl ?_
  refine e_Tr_openRow_28  ?_
  refine e_Tr_openRow_29  ?_
  refine e_Tr_openRow_30 g1 (Nat.le_of_ble_eq_true rfl) ?_
  have e9 : nI es.length + 1 = nI (es.length + 1) := nI_1 _
  rw [show (h'.set t (3, [Value.ref (t + 1), Value.int (nI es.length)].set 1 (.int (nI es.length + 1)))) = h'.set t (3, [.ref (t + 1), .int (nI (es.length + 1))]) by rw [e9]; rfl]
  have hL2 := hL1.cnt (m := es.length + 1) (by omega)
  have g2 := hL2.1
  refine e_Tr_openRow_33 rfl ?_
  refine e_Tr_openRow_34 rfl ?_
  refine e_Tr_openRow_35 g2 rfl ?_
  refine e_Tr_openRow_38  ?_
  refine e_Tr_openRow_39  ?_
  rw [show nI (es.length + 1) - 1 = nI es.length from nI_pred _]
  have hget : (L.set es.length (L[es.length].1, (q, -1, [])))[es.length]? = some (L[es.length].1, (q, -1, [])) := List.getElem?_set_self (by omega)
  have ssm : ∀ (i : Nat) (x : Nat × tE), i < es.length + 1 → (L.set es.length (L[es.length].1, ((q, -1, []) : tE)))[i]? = some x → sm x.2.1 := by
    intro i x hi hxi
    rw [List.getElem?_set] at hxi
    by_cases hie : es.length = i
    · rw [if_pos hie, if_pos (by omega)] at hxi
      cases hxi
      exact sq
    · rw [if_neg hie] at hxi
      have h9 := snd_at hpre (i := i) (by omega)
      rw [hxi] at h9
      exact hs x.2 (List.mem_of_getElem? h9.symm)
  refine e_Tr_openRow_40 g2 (by decide) (c_Tr_sinkRow hL2 (m := es.length) (by omega) ssm hget) (kv ?_) xn
  rintro h'' ⟨hL3, f3⟩
  have esk : sk (L.set es.length (L[es.length].1, ((q, -1, []) : tE))) q es.length = se es q es.length := sk_se _ (fun i hi => by rw [List.getElem?_set, if_neg (by omega)]; exact snd_at hpre hi)
  have hpre2 : es <+: (L.set es.length (L[es.length].1, ((q, -1, []) : tE))).map Prod.snd := by
    obtain ⟨r, hr⟩ := hpre
    refine ⟨r.set 0 (q, -1, []), ?_⟩
    rw [List.map_set, ← hr, List.set_append_right _ _ (Nat.le_refl _), Nat.sub_self]
  refine e_Tr_openRow_43 ⟨by rw [← esk], ⟨Hl (L.set es.length (L[es.length].1, ((q, -1, []) : tE))) (se es q es.length) es.length (L[es.length].1, (q, -1, [])), ?_, ?_⟩, (f1.tr (fr.set ⟨by omega, by omega⟩)).tr (f3.mono (by rintro d rfl; exact ⟨by omega, by omega⟩))⟩
  · have : (iat es (se es q es.length) (q, -1, [])).length = es.length + 1 := by
      have := se_le es q es.length
      unfold iat; simp; omega
    rw [this, ← esk]
    exact hL3
  · exact iat_pre (x := (L[es.length].1, ((q, -1, []) : tE))) hpre2 (se_le es q es.length)
/-- what put makes of a list -/
def pu (es : List tE) (f : tE) : List tE := match fx es f.1 with
  | some i => es.set i f
  | none => if es.length = 40 then es else iat es (se es f.1 es.length) f
theorem set_pre {L : List (Nat × tE)} (hp : es <+: L.map Prod.snd) {i : Nat} {x : Nat × tE} {f : tE} : es.set i f <+: (L.set i (x.1, f)).map Prod.snd ∨ es.length ≤ i := by
  rcases Nat.lt_or_ge i es.length with hi | hi
  · left
    obtain ⟨r, hr⟩ := hp
    refine ⟨r, ?_⟩
    rw [List.map_set, ← hr, List.set_append_left _ _ hi]
  · exact Or.inr hi
theorem iat_set {es : List tE} {k : Nat} (hk : k ≤ es.length) {f g : tE} : (iat es k f).set k g = iat es k g := by
  unfold iat
  rw [List.set_append_right _ _ (by simp; omega)]
  simp [Nat.min_eq_left hk]
theorem c_Tr_put (ht : tr h t es) (hs : sme es) (he : en h e p kd cs) (sp : sm p) (nb : ∀ d, eS e d → ¬ tS t d) : tv_Ct G mm_Tr_put [.ref t, .ref e] h 0 0 (rv (.int (if fx es p = none ∧ es.length = 40 then 0 else 1)) (fun h' => tr h' t (pu es (p, kd, cs)) ∧ fr (tS t) h h')) := by
  have hlen := ht.len
  obtain ⟨rs, r1, -⟩ := ht.row
  -- the row at i becomes like the item
  have fin : ∀ (es2 : List tE) (h2 : tv_H) (i : Nat), tr h2 t es2 → i < es2.length → en h2 e p kd cs → fr (tS t) h h2 → tv_Ev G mm_Tr_put 23 [some (.ref t), some (.ref e), some (.int (nI i))] [] h2 0 0 (rv (.int 1) (fun h' => tr h' t (es2.set i (p, kd, cs)) ∧ fr (tS t) h h')) := by
    intro es2 h2 i ht2 hi he2 hf2
    have hl2 := ht2.len
    obtain ⟨L, hL, hpre⟩ := id ht2
    obtain ⟨k1, k2, k3, k4, k5, k6⟩ := id hL
    have hx : L[i]? = some L[i] := List.getElem?_eq_getElem (by omega)
    obtain ⟨e1, j1, hj1, ej1⟩ := en_m hL hx
    refine e_Tr_put_23 rfl ?_
    refine e_Tr_put_24  ?_
    refine e_Tr_put_25 (fun _ => ?_) (fun c1 => absurd c1 (m1_nI (by omega)))
    refine e_Tr_put_30 rfl ?_
    refine e_Tr_put_31 k1 rfl ?_
    refine e_Tr_put_34 rfl ?_
    refine e_Tr_put_35 i k2 rfl (by rw [List.getElem?_map, hx]; rfl) (by rw [List.length_map]; omega) ?_
    refine e_Tr_put_36 rfl ?_
    have dis : e > L[i].1 + 3 ∨ L[i].1 > e + 3 := by
      have q1 := nb e ⟨by omega, by omega⟩
      have q2 := nb (e + 3) ⟨by omega, by omega⟩
      have q3 : ∀ d, e ≤ d → d ≤ e + 3 → ¬ (t ≤ d ∧ d < t + 162) := fun d a1 a2 => nb d ⟨a1, a2⟩
      rcases Nat.lt_or_ge (L[i].1 + 3) e with g | g
      · exact Or.inl g
      · rcases Nat.lt_or_ge (e + 3) L[i].1 with g2 | g2
        · exact Or.inr g2
        · exfalso
          rcases Nat.lt_or_ge L[i].1 e with g3 | g3
          · exact q3 e (by omega) (by omega) ⟨by omega, by omega⟩
          · exact q3 L[i].1 g3 (by omega) ⟨by omega, by omega⟩
    refine e_Tr_put_37 e1.1 (by decide) (c_En_become e1 he2 dis) (kn ?_) xn
    rintro h' ⟨en', f'⟩
    have hL1 := hL.upd hx (f := (p, kd, cs)) en' f'
    refine e_Tr_put_40  ?_
    refine e_Tr_put_41 (Or.inr rfl) ⟨rfl, ⟨L.set i (L[i].1, (p, kd, cs)), by rw [List.length_set]; exact hL1, ?_⟩, hf2.tr (f'.mono (by rintro d ⟨g1, g2⟩; exact ⟨by omega, by omega⟩))⟩
    rcases set_pre (x := L[i]) (f := (p, kd, cs)) hpre (i := i) with g | g
    · exact g
    · omega
  refine tv_ct rfl (by decide +kernel) (by simp [Value.category]) (Nat.le_of_ble_eq_true rfl) ?_
  refine e_Tr_put_0 rfl ?_
  refine e_Tr_put_1 rfl ?_
  refine e_Tr_put_2 he.1 rfl ?_
  refine e_Tr_put_5 r1 (by decide) (c_Tr_find ht hs he.2.1 sp) (kp ?_) xn
  refine e_Tr_put_8 (Nat.le_of_ble_eq_true rfl) ?_
  refine e_Tr_put_9 rfl ?_
  refine e_Tr_put_10  ?_
  cases hf : fx es p with
  | some i =>
    obtain ⟨g, hg, -⟩ := fx_lt hf
    have hi := (List.getElem?_eq_some_iff.mp hg).1
    refine e_Tr_put_11 (fun _ => ?_) (fun c1 => absurd c1 (m1_nI (by omega)))
    rw [if_neg (by rintro ⟨g, -⟩; cases g), show pu es (p, kd, cs) = es.set i (p, kd, cs) by rw [pu, hf]]
    exact fin es h i ht hi he fr.rf
  | none =>
    refine e_Tr_put_11 (fun c1 => absurd rfl c1) (fun _ => ?_)
    refine e_Tr_put_14 rfl ?_
    refine e_Tr_put_15 rfl ?_
    refine e_Tr_put_16 he.1 rfl ?_
    rcases Nat.lt_or_ge es.length 40 with hl | hl
    · have hpu : pu es (p, kd, cs) = iat es (se es p es.length) (p, kd, cs) := by rw [pu, hf]; show (if es.length = 40 then es else _) = _; rw [if_neg (by omega)]
      rw [if_neg (by rintro ⟨-, g⟩; omega), hpu]
      refine e_Tr_put_19 r1 (by decide) (c_Tr_openRow ht hs hl he.2.1 sp (nb _ ⟨by omega, by omega⟩) (nb _ ⟨by omega, by omega⟩)) (kv ?_) xn
      rintro h' ⟨ht', f'⟩
      refine e_Tr_put_22 (Nat.le_of_ble_eq_true rfl) ?_
      have hk := se_le es p es.length
      have := fin _ h' (se es p es.length) ht' (by unfold iat; simp; omega) (he.kept f' nb) f'
      rw [iat_set hk] at this
      exact this
    · have h40 : es.length = 40 := by omega
      have hpu : pu es (p, kd, cs) = es := by rw [pu, hf]; show (if es.length = 40 then es else _) = _; rw [if_pos h40]
      rw [if_pos ⟨rfl, h40⟩, hpu]
      have full : tv_Ct G mm_Tr_openRow [.ref t, .ref (e + 1)] h 0 0 (rv (.int (-1)) (fun h' => h' = h)) := by
        refine tv_ct rfl (by decide +kernel) (by simp [Value.category]) (Nat.le_of_ble_eq_true rfl) ?_
        refine e_Tr_openRow_0 rfl ?_
        refine e_Tr_openRow_1 r1 (by decide) (c_Tr_isFull ht) (kp ?_) xn
        rw [if_pos h40]
        refine e_Tr_openRow_4 (fun c1 => absurd c1 (by decide)) (fun _ => ?_)
        refine e_Tr_openRow_7 ?_
        exact e_Tr_openRow_8 ⟨rfl, rfl⟩
      refine e_Tr_put_19 r1 (by decide) full (kp ?_) xn
      refine e_Tr_put_22 (Nat.le_of_ble_eq_true rfl) ?_
      refine e_Tr_put_23 rfl ?_
      refine e_Tr_put_24  ?_
      refine e_Tr_put_25 (fun c1 => absurd rfl c1) (fun _ => ?_)
      refine e_Tr_put_28  ?_
      exact e_Tr_put_29 (Or.inl rfl) ⟨rfl, ht, fr.rf⟩
end
