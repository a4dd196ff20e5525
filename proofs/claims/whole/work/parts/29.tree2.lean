/-! Tree: rows that move -/
/-- l without its element m, y put in at j (j ≤ m) -/
def Hl {α : Type} (l : List α) (j m : Nat) (y : α) : List α := l.take j ++ y :: ((l.drop j).take (m - j) ++ l.drop (m + 1))
section
variable {α β : Type} {l : List α} {j m i : Nat} {x y v : α}
theorem drop_g (h : l[j]? = some v) : l.drop j = v :: l.drop (j + 1) := by
  have hl := (List.getElem?_eq_some_iff.mp h)
  rw [List.drop_eq_getElem_cons hl.1, hl.2]
theorem take_g (h : l[j]? = some v) : l.take (j + 1) = l.take j ++ [v] := by
  rw [List.take_add_one, h]; rfl
theorem Hl_self (h : l[m]? = some x) : Hl l m m x = l := by
  unfold Hl
  rw [Nat.sub_self, List.take_zero, List.nil_append, ← drop_g h, List.take_append_drop]
theorem Hl_len (hj : j ≤ m) (hm : m < l.length) : (Hl l j m y).length = l.length := by
  unfold Hl
  simp
  omega
theorem Hl_set (hj : j ≤ l.length) : (Hl l j m x).set j y = Hl l j m y := by
  unfold Hl
  rw [List.set_append_right _ _ (by simp; omega)]
  simp [Nat.min_eq_left hj]
theorem Hl_down (hj : j + 1 ≤ m) (h : l[j]? = some v) : Hl l (j + 1) m v = Hl l j m v := by
  unfold Hl
  rw [take_g h, drop_g h, show m - j = (m - (j + 1)) + 1 by omega, List.take_succ_cons]
  simp
theorem Hl_lo (hi : i < j) : (Hl l j m y)[i]? = if i < l.length then l[i]? else (Hl l j m y)[i]? := by
  split
  · unfold Hl
    rw [List.getElem?_append_left (by simp; omega), List.getElem?_take_of_lt hi]
  · rfl
theorem Hl_map (f : α → β) : (Hl l j m y).map f = Hl (l.map f) j m (f y) := by
  unfold Hl
  simp [List.map_take, List.map_drop]
theorem Hl_at (hj : j ≤ l.length) : (Hl l j m y)[j]? = some y := by
  unfold Hl
  rw [List.getElem?_append_right (by simp; omega)]
  simp [Nat.min_eq_left hj]
theorem Hl_perm (hj : j ≤ m) (h : l[m]? = some x) : (Hl l j m x).Perm l := by
  have e1 : l.drop j = (l.drop j).take (m - j) ++ x :: l.drop (m + 1) := by
    have h1 : (l.drop j).drop (m - j) = x :: l.drop (m + 1) := by
      rw [List.drop_drop, show j + (m - j) = m by omega, drop_g h]
    rw [← h1, List.take_append_drop]
  have e2 : l = l.take j ++ ((l.drop j).take (m - j) ++ x :: l.drop (m + 1)) := by
    rw [← e1, List.take_append_drop]
  unfold Hl
  refine List.Perm.trans ?_ (List.Perm.of_eq e2.symm)
  exact List.Perm.append_left _ List.perm_middle.symm
end
theorem nodup_at {l : List Nat} (h : l.Nodup) {i j r : Nat} (hi : l[i]? = some r) (hj : l[j]? = some r) : i = j := by
  have a := (List.getElem?_eq_some_iff.mp hi)
  have b := (List.getElem?_eq_some_iff.mp hj)
  exact (List.getElem_inj h).mp (a.2.trans b.2.symm)
section
variable {G : tv_G} {h h' : tv_H} {a b t n : Nat} {p q : List Nat} {c z : Nat} {es : List tE} {L L' : List (Nat × tE)}
/-- another order of the rows -/
theorem tq.rows (ht : tq h t n L) (hp : L'.Perm L) (hf : fr (fun b => b = t + 1) h h') (hr : h'[t + 1]? = some (103, L'.map (fun x => Value.ref x.1))) : tq h' t n L' := by
  obtain ⟨h1, h2, h3, h4, h5, h6⟩ := ht
  refine ⟨(hf.2 t (by omega)).trans h1, hr, hp.length_eq.trans h3, h4, (hp.map Prod.fst).nodup_iff.mpr h5, fun x hx => ?_⟩
  obtain ⟨⟨j, hj, e1⟩, e2⟩ := h6 x (hp.mem_iff.mp hx)
  exact ⟨⟨j, hj, e1⟩, e2.kept hf (fun b hb => by have := hb.1; omega)⟩
/-- one row is written -/
theorem tq.upd (ht : tq h t n L) {i : Nat} {x : Nat × tE} (hx : L[i]? = some x) {f : tE} (he : en h' x.1 f.1 f.2.1 f.2.2) (hf : fr (eS x.1) h h') : tq h' t n (L.set i (x.1, f)) := by
  obtain ⟨h1, h2, h3, h4, h5, h6⟩ := ht
  have hm := List.mem_of_getElem? hx
  obtain ⟨⟨j0, hj0, e0⟩, -⟩ := h6 x hm
  have hfst : (L.set i (x.1, f)).map Prod.fst = L.map Prod.fst := by
    apply List.ext_getElem?
    intro k
    rw [List.getElem?_map, List.getElem?_map, List.getElem?_set]
    by_cases hk : i = k
    · subst hk
      rw [if_pos rfl, if_pos (List.getElem?_eq_some_iff.mp hx).1, hx]
      rfl
    · rw [if_neg hk]
  have hrf : (L.set i (x.1, f)).map (fun x => Value.ref x.1) = L.map (fun x => Value.ref x.1) := by
    have := congrArg (List.map Value.ref) hfst
    rw [List.map_map, List.map_map] at this
    exact this
  refine ⟨(hf.2 t (by rintro ⟨q1, q2⟩; omega)).trans h1, ?_, by rw [List.length_set]; exact h3, h4, by rw [hfst]; exact h5, fun y hy => ?_⟩
  · rw [hrf]; exact (hf.2 (t + 1) (by rintro ⟨q1, q2⟩; omega)).trans h2
  · obtain ⟨k, hk⟩ := List.getElem?_of_mem hy
    rw [List.getElem?_set] at hk
    by_cases hik : i = k
    · subst hik
      rw [if_pos rfl, if_pos (List.getElem?_eq_some_iff.mp hx).1] at hk
      have hk : (x.1, f) = y := Option.some.inj hk
      subst hk
      exact ⟨⟨j0, hj0, e0⟩, he⟩
    · rw [if_neg hik] at hk
      obtain ⟨⟨j, hj, e1⟩, e2⟩ := h6 y (List.mem_of_getElem? hk)
      have hne : y.1 ≠ x.1 := by
        intro e
        refine hik (nodup_at h5 (i := i) (j := k) (r := x.1) ?_ ?_)
        · rw [List.getElem?_map, hx]; rfl
        · rw [List.getElem?_map, hk]; show some y.1 = some x.1; rw [e]
      exact ⟨⟨j, hj, e1⟩, e2.kept hf (fun b hb hb2 => by have q1 := hb.1; have q2 := hb.2; have q3 := hb2.1; have q4 := hb2.2; omega)⟩
theorem tq.cnt (ht : tq h t n L) {m : Nat} (hm : m ≤ 40) : tq (h.set t (3, [.ref (t + 1), .int (nI m)])) t m L := by
  obtain ⟨h1, h2, h3, h4, h5, h6⟩ := ht
  refine ⟨gs_eq h1, gs_ne h2 (by omega), h3, hm, h5, fun x hx => ?_⟩
  obtain ⟨⟨j, hj, e1⟩, e2⟩ := h6 x hx
  exact ⟨⟨j, hj, e1⟩, e2.kept (fr.set (S := fun b => b = t) rfl) (fun b hb e => by have := hb.1; omega)⟩
/-- where a row of the path p, now at j, comes to stand -/
def sk (L : List (Nat × tE)) (p : List Nat) : Nat → Nat
  | 0 => 0
  | j + 1 => match L[j]? with
    | some g => if p < g.2.1 then sk L p j else j + 1
    | none => j + 1
theorem sk_le (L : List (Nat × tE)) (p : List Nat) : ∀ j, sk L p j ≤ j
  | 0 => Nat.le_refl 0
  | j + 1 => by
    have := sk_le L p j
    rw [sk]
    split
    · split <;> omega
    · omega
theorem l_Tr_sinkRow (ht : tq h t n L) {m : Nat} (hm : m < n) (hs : ∀ (i : Nat) (x : Nat × tE), i < n → L[i]? = some x → sm x.2.1) {x0 : Nat × tE} (hx0 : L[m]? = some x0) : ∀ j, j ≤ m → ∀ h' y, fr (fun b => b = t + 1) h h' → h'[t + 1]? = some (103, (Hl L j m y).map (fun x => Value.ref x.1)) → tv_Ev G mm_Tr_sinkRow 9 [some (.ref t), some (.int (nI m)), some (.ref x0.1), some (.int (nI j))] [] h' c z (rv (.int (nI (sk L x0.2.1 j))) (fun h'' => tq h'' t n (Hl L (sk L x0.2.1 j) m x0) ∧ fr (fun b => b = t + 1) h h'')) := by
  obtain ⟨h1, h2, h3, h4, h5, h6⟩ := id ht
  have e0 := (h6 x0 (List.mem_of_getElem? hx0)).2
  have s0 := hs m x0 hm hx0
  have fin : ∀ j, j ≤ m → ∀ h' y, fr (fun b => b = t + 1) h h' → h'[t + 1]? = some (103, (Hl L j m y).map (fun x => Value.ref x.1)) → tv_Ev G mm_Tr_sinkRow 61 [some (.ref t), some (.int (nI m)), some (.ref x0.1), some (.int (nI j))] [] h' c z (rv (.int (nI j)) (fun h'' => tq h'' t n (Hl L j m x0) ∧ fr (fun b => b = t + 1) h h'')) := by
    intro j hj h' y hf hr
    have g1 := (hf.2 t (by omega)).trans h1
    have e1 := e0.kept hf (fun b hb e => by obtain ⟨⟨j9, -, e9⟩, -⟩ := h6 x0 (List.mem_of_getElem? hx0); have := hb.1; omega)
    refine e_Tr_sinkRow_61 rfl ?_
    refine e_Tr_sinkRow_62 g1 rfl ?_
    refine e_Tr_sinkRow_65 rfl ?_
    refine e_Tr_sinkRow_66 rfl ?_
    refine e_Tr_sinkRow_67 j hr e1.1 rfl (by rw [List.length_map, Hl_len hj (by omega)]; omega) (by rw [List.length_map, Hl_len hj (by omega)]; omega) ?_
    refine e_Tr_sinkRow_68 rfl ?_
    refine e_Tr_sinkRow_69 ⟨rfl, ?_, hf.tr (fr.set rfl)⟩
    refine ht.rows (Hl_perm hj hx0) (hf.tr (fr.set rfl)) ?_
    rw [gs_eq hr, Hl_map, Hl_map, Hl_set (by rw [List.length_map]; omega)]
  intro j
  induction j with
  | zero =>
    intro hj h' y hf hr
    refine e_Tr_sinkRow_9 rfl ?_
    refine e_Tr_sinkRow_10 (fun _ => ?_) (fun c1 => absurd (by decide) c1)
    exact fin 0 hj h' y hf hr
  | succ j ih =>
    intro hj h' y hf hr
    have hL : L[j]? = some L[j] := List.getElem?_eq_getElem (by omega)
    have eg := (h6 L[j] (List.getElem_mem _)).2
    have sg_ := hs j _ (by omega) hL
    have g1 := (hf.2 t (by omega)).trans h1
    have hk9 : ∀ x ∈ L, en h' x.1 x.2.1 x.2.2.1 x.2.2.2 := fun x hx => (h6 x hx).2.kept hf (fun b hb e => by obtain ⟨⟨j9, -, e9⟩, -⟩ := h6 x hx; have := hb.1; omega)
    have e1 := hk9 x0 (List.mem_of_getElem? hx0)
    have e2 := hk9 L[j] (List.getElem_mem _)
    obtain ⟨_, i1, -⟩ := id e2.2.1
    obtain ⟨_, i2, -⟩ := id e1.2.1
    have hgj : ((Hl L (j + 1) m y).map (fun x => Value.ref x.1))[j]? = some (.ref L[j].1) := by
      rw [List.getElem?_map, Hl_lo (by omega), if_pos (by omega), hL]
      rfl
    have ll : ((Hl L (j + 1) m y).map (fun x => Value.ref x.1)).length = 40 := by rw [List.length_map, Hl_len (by omega) (by omega)]; exact h3
    have ej : nI (j + 1) - 1 = nI j := nI_pred j
    have lx0 := e1.2.1.len
    refine e_Tr_sinkRow_9 rfl ?_
    refine e_Tr_sinkRow_10 (fun c1 => absurd c1 (nI_nle (by omega) (by omega))) (fun _ => ?_)
    refine e_Tr_sinkRow_13 rfl ?_
    refine e_Tr_sinkRow_14 g1 rfl ?_
    refine e_Tr_sinkRow_17 rfl ?_
    refine e_Tr_sinkRow_18  ?_
    refine e_Tr_sinkRow_19  ?_
    refine e_Tr_sinkRow_20 j hr ej hgj (by omega) ?_
    refine e_Tr_sinkRow_21 e2.1 rfl ?_
    refine e_Tr_sinkRow_24 rfl ?_
    refine e_Tr_sinkRow_25 e1.1 rfl ?_
    refine e_Tr_sinkRow_28 rfl ?_
    refine e_Tr_sinkRow_29 e1.1 rfl ?_
    refine e_Tr_sinkRow_32 i2 rfl ?_
    refine e_Tr_sinkRow_35 i1 (by decide) (c_Pa_order e2.2.1 e1.2.1 sg_ s0 (m := x0.2.1.length) (by omega)) (kp ?_) xn
    rw [List.take_length]
    have skj : sk L x0.2.1 (j + 1) = if x0.2.1 < L[j].2.1 then sk L x0.2.1 j else j + 1 := by rw [sk, hL]
    refine e_Tr_sinkRow_38 (fun c1 => ?_) (fun c1 => ?_)
    · have nlt : ¬ x0.2.1 < L[j].2.1 := fun g => absurd ((ov_gt sg_ s0).mpr g) (Int32.not_lt.mpr c1)
      rw [skj, if_neg nlt]
      exact fin (j + 1) hj h' y hf hr
    · have lt : x0.2.1 < L[j].2.1 := (ov_gt sg_ s0).mp (Int32.not_le.mp c1)
      rw [skj, if_pos lt]
      refine e_Tr_sinkRow_41 rfl ?_
      refine e_Tr_sinkRow_42 g1 rfl ?_
      refine e_Tr_sinkRow_45 rfl ?_
      refine e_Tr_sinkRow_46 rfl ?_
      refine e_Tr_sinkRow_47 g1 rfl ?_
      refine e_Tr_sinkRow_50 rfl ?_
      refine e_Tr_sinkRow_51  ?_
      refine e_Tr_sinkRow_52  ?_
      refine e_Tr_sinkRow_53 j hr ej hgj (by omega) ?_
      refine e_Tr_sinkRow_54 (j + 1) hr e2.1 rfl (by omega) (by omega) ?_
      refine e_Tr_sinkRow_55 rfl ?_
      refine e_Tr_sinkRow_58  ?_
      have hi := ih (by omega) (h'.set (t + 1) (103, ((Hl L (j + 1) m y).map (fun x => Value.ref x.1)).set (j + 1) (.ref L[j].1))) L[j] (hf.tr (fr.set rfl)) (by
        rw [gs_eq hr, Hl_map, Hl_map, Hl_set (by rw [List.length_map]; omega), Hl_down (by omega)]
        rw [List.getElem?_map, hL]
        rfl)
      rw [← nI_m1 j] at hi
      exact hi
theorem c_Tr_sinkRow (ht : tq h t n L) {m : Nat} (hm : m < n) (hs : ∀ (i : Nat) (x : Nat × tE), i < n → L[i]? = some x → sm x.2.1) {x0 : Nat × tE} (hx0 : L[m]? = some x0) : tv_Ct G mm_Tr_sinkRow [.ref t, .int (nI m)] h 0 0 (rv (.int (nI (sk L x0.2.1 m))) (fun h' => tq h' t n (Hl L (sk L x0.2.1 m) m x0) ∧ fr (fun b => b = t + 1) h h')) := by
  obtain ⟨h1, h2, h3, h4, h5, h6⟩ := id ht
  refine tv_ct rfl (by decide +kernel) (by simp [Value.category]) (Nat.le_of_ble_eq_true rfl) ?_
  refine e_Tr_sinkRow_0 rfl ?_
  refine e_Tr_sinkRow_1 h1 rfl ?_
  refine e_Tr_sinkRow_4 rfl ?_
  refine e_Tr_sinkRow_5 m h2 rfl (by rw [List.getElem?_map, hx0]; rfl) (by rw [List.length_map]; omega) ?_
  refine e_Tr_sinkRow_6 (Nat.le_of_ble_eq_true rfl) ?_
  refine e_Tr_sinkRow_7 rfl ?_
  refine e_Tr_sinkRow_8 (Nat.le_of_ble_eq_true rfl) ?_
  exact l_Tr_sinkRow ht hm hs hx0 m (Nat.le_refl m) h x0 fr.rf (by rw [Hl_self hx0]; exact h2)
end
