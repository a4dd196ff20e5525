/-! Tree: what it is, finding -/
/-- an entry: path, kind, bytes -/
abbrev tE : Type := List Nat × Int32 × List Nat
/-- a Tree at t: n rows are in use; the objects of its rows and what they hold -/
def tq (h : tv_H) (t n : Nat) (L : List (Nat × tE)) : Prop := h[t]? = some (3, [.ref (t + 1), .int (nI n)]) ∧ h[t + 1]? = some (103, L.map (fun x => Value.ref x.1)) ∧ L.length = 40 ∧ n ≤ 40 ∧ (L.map Prod.fst).Nodup ∧ ∀ x ∈ L, (∃ j, j < 40 ∧ x.1 = t + 2 + 4 * j) ∧ en h x.1 x.2.1 x.2.2.1 x.2.2.2
def tr (h : tv_H) (t : Nat) (es : List tE) : Prop := ∃ L, tq h t es.length L ∧ es <+: L.map Prod.snd
abbrev tS (t : Nat) : Nat → Prop := fun b => t ≤ b ∧ b < t + 162
/-- the paths have small signs -/
def sme (es : List tE) : Prop := ∀ e ∈ es, sm e.1
theorem pre_at {α : Type} {es fs : List α} (h : es <+: fs) {k : Nat} (hk : k < es.length) : fs[k]? = es[k]? := by
  obtain ⟨t, rfl⟩ := h
  exact List.getElem?_append_left hk
theorem tr.len {h : tv_H} {t : Nat} {es : List tE} (ht : tr h t es) : es.length ≤ 40 := by
  obtain ⟨L, ⟨-, -, -, h5, -⟩, -⟩ := ht
  exact h5
theorem map_get {rs : List Nat} {k r : Nat} (h : rs[k]? = some r) : (rs.map Value.ref)[k]? = some (.ref r) := by
  rw [List.getElem?_map, h]; rfl
theorem tr.row {h : tv_H} {t : Nat} {es : List tE} (ht : tr h t es) : ∃ rs : List Nat, h[t]? = some (3, [.ref (t + 1), .int (nI es.length)]) ∧ h[t + 1]? = some (103, rs.map Value.ref) ∧ rs.length = 40 ∧ ∀ (k : Nat) (e : tE), es[k]? = some e → ∃ r : Nat, rs[k]? = some r ∧ en h r e.1 e.2.1 e.2.2 := by
  have hl := ht.len
  obtain ⟨L, hq, hp⟩ := ht
  refine ⟨L.map Prod.fst, hq.1, by rw [List.map_map]; exact hq.2.1, by rw [List.length_map]; exact hq.2.2.1, fun k e he => ?_⟩
  have hk := (List.getElem?_eq_some_iff.mp he).1
  have h2 := pre_at hp hk
  rw [he, List.getElem?_map] at h2
  cases hx : L[k]? with
  | none => rw [hx] at h2; cases h2
  | some x =>
    rw [hx] at h2
    have h2 : x.2 = e := Option.some.inj h2
    subst h2
    exact ⟨x.1, by rw [List.getElem?_map, hx]; rfl, (hq.2.2.2.2.2 x (List.mem_of_getElem? hx)).2⟩
def ox (o : Option Nat) : Int32 := match o with
  | some i => nI i
  | none => -1
/-- where a path stands in a list in order -/
def fx : List tE → List Nat → Option Nat
  | [], _ => none
  | e :: es, q => if e.1 < q then (fx es q).map (· + 1) else if e.1 = q then some 0 else none
theorem fx_lt {es : List tE} {q : List Nat} : ∀ {i : Nat}, fx es q = some i → ∃ e, es[i]? = some e ∧ e.1 = q := by
  induction es with
  | nil => intro i h; cases h
  | cons e es ih =>
    intro i h
    rw [fx] at h
    split at h
    · cases h9 : fx es q with
      | none => rw [h9] at h; cases h
      | some j =>
        rw [h9] at h
        have : j + 1 = i := Option.some.inj h
        subst this
        rw [List.getElem?_cons_succ]
        exact ih h9
    · split at h
      · rename_i h1
        cases h
        exact ⟨e, rfl, h1⟩
      · cases h
theorem m1_nI {n : Nat} (h : n < 2 ^ 31) : ¬ nI n = -1 := by
  intro e
  have h1 := nI_toInt h
  rw [e] at h1
  have h2 : (-1 : Int32).toInt = -1 := by decide
  omega
theorem ox_m1 {o : Option Nat} (h : ∀ i, o = some i → i < 2 ^ 31) : ox o = -1 ↔ o = none := by
  cases o with
  | none => exact ⟨fun _ => rfl, fun _ => rfl⟩
  | some i => exact ⟨fun e => absurd e (m1_nI (h i rfl)), fun e => by cases e⟩
section
variable {G : tv_G} {h : tv_H} {a b t : Nat} {p q : List Nat} {c z : Nat} {es : List tE}
theorem fx_small (ht : tr h t es) {q : List Nat} : ∀ i, fx es q = some i → i < 2 ^ 31 := by
  intro i hi
  obtain ⟨e, h1, -⟩ := fx_lt hi
  have := (List.getElem?_eq_some_iff.mp h1).1
  have := ht.len
  omega
theorem c_Tr_isFull (ht : tr h t es) : tv_Ct G mm_Tr_isFull [.ref t] h 0 0 (rv (.int (if es.length = 40 then 1 else 0)) (fun h' => h' = h)) := by
  have hl := ht.len
  obtain ⟨rs, h1, -⟩ := ht.row
  refine tv_ct rfl (by decide +kernel) (by simp [Value.category]) (Nat.le_of_ble_eq_true rfl) ?_
  refine e_Tr_isFull_0 rfl ?_
  refine e_Tr_isFull_1 h1 rfl ?_
  refine e_Tr_isFull_4  ?_
  refine e_Tr_isFull_6 (fun c1 => ?_) (fun c1 => ?_)
  · have := (nI_ltI (b := 40) (by omega) (by decide)).mp c1
    refine e_Tr_isFull_13  ?_
    exact e_Tr_isFull_14 (Or.inl rfl) ⟨by rw [if_neg (by omega)], rfl⟩
  · have : 40 ≤ es.length := by
      rcases Nat.lt_or_ge es.length 40 with g | g
      · exact absurd (nI_lt (b := 40) g (by decide)) c1
      · exact g
    refine e_Tr_isFull_9  ?_
    refine e_Tr_isFull_10  ?_
    exact e_Tr_isFull_14 (Or.inr rfl) ⟨by rw [if_pos (by omega)], rfl⟩
theorem l_Tr_findStart (ht : tr h t es) (hs : sme es) (hq : pa h b q) (sq : sm q) {m : Nat} (hm : m < 2 ^ 31) : ∀ j k, j + k = es.length → ∀ u, tv_Ev G mm_Tr_findStart 2 [some (.ref t), some (.ref b), some (.int (nI m)), some (.int (nI k)), u] [] h c z (rv (.int (ox ((fx (es.drop k) (q.take m)).map (· + k)))) (fun h' => h' = h)) := by
  have hl := ht.len
  obtain ⟨rs, h1, h2, h3, h4⟩ := ht.row
  intro j
  induction j with
  | zero =>
    intro k hk u
    have hk : k = es.length := by omega
    subst hk
    refine e_Tr_findStart_2 rfl ?_
    refine e_Tr_findStart_3 rfl ?_
    refine e_Tr_findStart_4 h1 rfl ?_
    refine e_Tr_findStart_7 (fun _ => ?_) (fun c1 => absurd (nI_le (Nat.le_refl _) (by omega)) c1)
    refine e_Tr_findStart_48  ?_
    exact e_Tr_findStart_49 ⟨by rw [List.drop_length]; rfl, rfl⟩
  | succ j ih =>
    intro k hk u
    have hg : es[k]? = some es[k] := List.getElem?_eq_getElem (by omega)
    obtain ⟨r, hr, he⟩ := h4 k _ hg
    obtain ⟨e1, e2, -⟩ := id he
    obtain ⟨_, i1, -⟩ := id e2
    have ss : sm es[k].1 := hs _ (List.getElem_mem _)
    have hd : es.drop k = es[k] :: es.drop (k + 1) := List.drop_eq_getElem_cons (by omega)
    refine e_Tr_findStart_2 rfl ?_
    refine e_Tr_findStart_3 rfl ?_
    refine e_Tr_findStart_4 h1 rfl ?_
    refine e_Tr_findStart_7 (fun c1 => absurd c1 (nI_ge (by omega) (by omega))) (fun _ => ?_)
    refine e_Tr_findStart_10 rfl ?_
    refine e_Tr_findStart_11 h1 rfl ?_
    refine e_Tr_findStart_14 rfl ?_
    refine e_Tr_findStart_15 k h2 rfl (map_get hr) (by simp; omega) ?_
    refine e_Tr_findStart_16 e1 rfl ?_
    refine e_Tr_findStart_19 rfl ?_
    refine e_Tr_findStart_20 rfl ?_
    refine e_Tr_findStart_21 i1 (by decide) (c_Pa_order e2 hq ss sq hm) (kp ?_) xn
    refine e_Tr_findStart_24 (Nat.le_of_ble_eq_true rfl) ?_
    refine e_Tr_findStart_26 rfl ?_
    refine e_Tr_findStart_28 (fun c1 => ?_) (fun c1 => ?_)
    · have lt := (ov_lt ss (sq.take (n := m))).mp c1
      refine e_Tr_findStart_42 rfl ?_
      refine e_Tr_findStart_45  ?_
      have hi := ih (k + 1) (by omega) (some (.int (ov es[k].1 (q.take m))))
      rw [nI_succ] at hi
      have e9 : ((fx (es.drop k) (q.take m)).map (· + k)) = ((fx (es.drop (k + 1)) (q.take m)).map (· + (k + 1))) := by
        rw [hd, fx, if_pos lt, Option.map_map]
        congr 1
        funext x
        show x + 1 + k = x + (k + 1)
        omega
      rw [e9]
      exact hi
    · have nlt : ¬ es[k].1 < q.take m := fun g => c1 ((ov_lt ss (sq.take (n := m))).mpr g)
      refine e_Tr_findStart_31 rfl ?_
      refine e_Tr_findStart_33 (fun c2 => ?_) (fun c2 => ?_)
      · have ne : ¬ es[k].1 = q.take m := fun g => c2 ((ov_eq ss (sq.take (n := m))).mpr g)
        refine e_Tr_findStart_40  ?_
        exact e_Tr_findStart_41 ⟨by rw [hd, fx, if_neg nlt, if_neg ne]; rfl, rfl⟩
      · have eq : es[k].1 = q.take m := (ov_eq ss (sq.take (n := m))).mp c2
        refine e_Tr_findStart_36 rfl ?_
        refine e_Tr_findStart_37  ?_
        exact e_Tr_findStart_41 ⟨by rw [hd, fx, if_neg nlt, if_pos eq]; show _ = Sum.inl (some (Value.int (nI (0 + k)))); rw [Nat.zero_add], rfl⟩
theorem c_Tr_findStart (ht : tr h t es) (hs : sme es) (hq : pa h b q) (sq : sm q) {m : Nat} (hm : m < 2 ^ 31) : tv_Ct G mm_Tr_findStart [.ref t, .ref b, .int (nI m)] h 0 0 (rv (.int (ox (fx es (q.take m)))) (fun h' => h' = h)) := by
  refine tv_ct rfl (by decide +kernel) (by simp [Value.category]) (Nat.le_of_ble_eq_true rfl) ?_
  refine e_Tr_findStart_0  ?_
  refine e_Tr_findStart_1 (Nat.le_of_ble_eq_true rfl) ?_
  have := l_Tr_findStart (G := G) (c := 0) (z := 0) ht hs hq sq hm es.length 0 rfl none
  rw [List.drop_zero] at this
  have e1 : (fx es (q.take m)).map (· + 0) = fx es (q.take m) := by cases fx es (q.take m) <;> rfl
  rw [e1] at this
  exact this
theorem c_Tr_find (ht : tr h t es) (hs : sme es) (hq : pa h b q) (sq : sm q) : tv_Ct G mm_Tr_find [.ref t, .ref b] h 0 0 (rv (.int (ox (fx es q))) (fun h' => h' = h)) := by
  have hl := hq.len
  obtain ⟨rs, h1, -⟩ := ht.row
  obtain ⟨_, i1, -⟩ := id hq
  refine tv_ct rfl (by decide +kernel) (by simp [Value.category]) (Nat.le_of_ble_eq_true rfl) ?_
  refine e_Tr_find_0 rfl ?_
  refine e_Tr_find_1 rfl ?_
  refine e_Tr_find_2 rfl ?_
  refine e_Tr_find_3 i1 rfl ?_
  refine e_Tr_find_6 h1 (by decide) (c_Tr_findStart ht hs hq sq (m := q.length) (by omega)) (kp ?_) xn
  exact e_Tr_find_9 ⟨by rw [List.take_length], rfl⟩
/-- the kind at a path, -1 for none -/
def kx (es : List tE) (q : List Nat) : Int32 := match fx es q with
  | some i => match es[i]? with
    | some e => e.2.1
    | none => -1
  | none => -1
theorem kx_at {es : List tE} {q : List Nat} {i : Nat} {e : tE} (h1 : fx es q = some i) (h2 : es[i]? = some e) : kx es q = e.2.1 := by
  unfold kx
  rw [h1]
  show (match es[i]? with | some e => e.2.1 | none => -1) = e.2.1
  rw [h2]
theorem kx_no {es : List tE} {q : List Nat} (h1 : fx es q = none) : kx es q = -1 := by
  unfold kx
  rw [h1]
theorem c_Tr_kindOf (ht : tr h t es) (hs : sme es) (hq : pa h b q) (sq : sm q) : tv_Ct G mm_Tr_kindOf [.ref t, .ref b] h 0 0 (rv (.int (kx es q)) (fun h' => h' = h)) := by
  have hl := ht.len
  obtain ⟨rs, h1, h2, h3, h4⟩ := ht.row
  refine tv_ct rfl (by decide +kernel) (by simp [Value.category]) (Nat.le_of_ble_eq_true rfl) ?_
  refine e_Tr_kindOf_0 rfl ?_
  refine e_Tr_kindOf_1 rfl ?_
  refine e_Tr_kindOf_2 h1 (by decide) (c_Tr_find ht hs hq sq) (kp ?_) xn
  refine e_Tr_kindOf_5 (Nat.le_of_ble_eq_true rfl) ?_
  refine e_Tr_kindOf_6 rfl ?_
  refine e_Tr_kindOf_7  ?_
  refine e_Tr_kindOf_8 (fun c1 => ?_) (fun c1 => ?_)
  · cases hf : fx es q with
    | none => rw [hf] at c1; exact absurd rfl c1
    | some i =>
      obtain ⟨e, he, -⟩ := fx_lt hf
      obtain ⟨r, hr, hen⟩ := h4 i e he
      refine e_Tr_kindOf_15 rfl ?_
      refine e_Tr_kindOf_16 h1 rfl ?_
      refine e_Tr_kindOf_19 rfl ?_
      refine e_Tr_kindOf_20 i h2 rfl (map_get hr) (by simp; omega) ?_
      refine e_Tr_kindOf_21 hen.1 rfl ?_
      exact e_Tr_kindOf_24 ⟨by rw [kx_at hf he], rfl⟩
  · have hf := (ox_m1 (fx_small ht)).mp c1
    refine e_Tr_kindOf_11  ?_
    refine e_Tr_kindOf_12  ?_
    exact e_Tr_kindOf_24 ⟨by rw [kx_no hf], rfl⟩
/-- there is a place for the path: its path one name shorter, if there is one, is a directory -/
abbrev hpl (es : List tE) (q : List Nat) : Prop := sh q = 0 ∨ kx es (q.take (sh q)) = 1
theorem shl_le (p : List Nat) : ∀ k, shl p k ≤ k
  | 0 => Nat.le_refl 0
  | k + 1 => by
    rw [shl]
    split
    · exact Nat.le_refl _
    · have := shl_le p k
      omega
theorem c_Tr_hasPlaceFor (ht : tr h t es) (hs : sme es) (hq : pa h b q) (sq : sm q) (hn : q ≠ []) : tv_Ct G mm_Tr_hasPlaceFor [.ref t, .ref b] h 0 0 (rv (.int (if hpl es q then 1 else 0)) (fun h' => h' = h)) := by
  have hl := ht.len
  have hlq := hq.len
  have hsl : sh q ≤ 19 := by
    have := shl_le q (q.length - 1)
    unfold sh
    omega
  obtain ⟨rs, h1, h2, h3, h4⟩ := ht.row
  obtain ⟨_, i1, -⟩ := id hq
  refine tv_ct rfl (by decide +kernel) (by simp [Value.category]) (Nat.le_of_ble_eq_true rfl) ?_
  refine e_Tr_hasPlaceFor_0 rfl ?_
  refine e_Tr_hasPlaceFor_1 i1 (by decide) (c_Pa_shorter hq hn) (kp ?_) xn
  refine e_Tr_hasPlaceFor_4 (Nat.le_of_ble_eq_true rfl) ?_
  refine e_Tr_hasPlaceFor_5 rfl ?_
  refine e_Tr_hasPlaceFor_6 (fun c1 => ?_) (fun c1 => ?_)
  · have h0 : sh q ≠ 0 := by intro e; rw [e] at c1; exact c1 rfl
    refine e_Tr_hasPlaceFor_11 rfl ?_
    refine e_Tr_hasPlaceFor_12 rfl ?_
    refine e_Tr_hasPlaceFor_13 rfl ?_
    refine e_Tr_hasPlaceFor_14 h1 (by decide) (c_Tr_findStart ht hs hq sq (m := sh q) (by omega)) (kp ?_) xn
    refine e_Tr_hasPlaceFor_17 (Nat.le_of_ble_eq_true rfl) ?_
    refine e_Tr_hasPlaceFor_18 rfl ?_
    refine e_Tr_hasPlaceFor_19  ?_
    refine e_Tr_hasPlaceFor_20 (fun c2 => ?_) (fun c2 => ?_)
    · have hf := (ox_m1 (fx_small ht)).mp c2
      refine e_Tr_hasPlaceFor_40  ?_
      refine e_Tr_hasPlaceFor_41 (Or.inl rfl) ⟨?_, rfl⟩
      rw [if_neg]
      rintro (g | g)
      · exact h0 g
      · rw [kx_no hf] at g; exact absurd g (by decide)
    · cases hf : fx es (q.take (sh q)) with
      | none => rw [hf] at c2; exact absurd rfl c2
      | some i =>
        obtain ⟨e, he, -⟩ := fx_lt hf
        obtain ⟨r, hr, hen⟩ := h4 i e he
        refine e_Tr_hasPlaceFor_23 rfl ?_
        refine e_Tr_hasPlaceFor_24 h1 rfl ?_
        refine e_Tr_hasPlaceFor_27 rfl ?_
        refine e_Tr_hasPlaceFor_28 i h2 rfl (map_get hr) (by simp; omega) ?_
        refine e_Tr_hasPlaceFor_29 hen.1 rfl ?_
        refine e_Tr_hasPlaceFor_32  ?_
        refine e_Tr_hasPlaceFor_33 (fun c3 => ?_) (fun c3 => ?_)
        · refine e_Tr_hasPlaceFor_40  ?_
          refine e_Tr_hasPlaceFor_41 (Or.inl rfl) ⟨?_, rfl⟩
          rw [if_neg]
          rintro (g | g)
          · exact h0 g
          · rw [kx_at hf he] at g; exact c3 g
        · refine e_Tr_hasPlaceFor_36  ?_
          refine e_Tr_hasPlaceFor_37  ?_
          exact e_Tr_hasPlaceFor_41 (Or.inr rfl) ⟨by rw [if_pos (Or.inr (by rw [kx_at hf he]; exact c3))], rfl⟩
  · have h0 : sh q = 0 := (nI_eq (b := 0) (by omega) (by decide)).mp c1
    refine e_Tr_hasPlaceFor_9  ?_
    exact e_Tr_hasPlaceFor_10 (Or.inr rfl) ⟨by rw [if_pos (Or.inl h0)], rfl⟩
end
