/-! lists in order -/
theorem srt_ext : ∀ {l1 l2 : List tE}, srt l1 → srt l2 → (∀ x, x ∈ l1 ↔ x ∈ l2) → l1 = l2 := by
  intro l1
  induction l1 with
  | nil =>
    intro l2 _ _ h
    cases l2 with
    | nil => rfl
    | cons a l => exact absurd ((h a).mpr List.mem_cons_self) List.not_mem_nil
  | cons a l1 ih =>
    intro l2 h1 h2 h
    cases l2 with
    | nil => exact absurd ((h a).mp List.mem_cons_self) List.not_mem_nil
    | cons b l2 =>
      have p1 := List.pairwise_cons.mp h1
      have p2 := List.pairwise_cons.mp h2
      have hab : a = b := by
        rcases List.mem_cons.mp ((h a).mp List.mem_cons_self) with w | w
        · exact w
        · rcases List.mem_cons.mp ((h b).mpr List.mem_cons_self) with w2 | w2
          · exact w2.symm
          · exact absurd (lt_tr (p1.1 b w2) (p2.1 a w)) (fun q => lt_irr q)
      subst hab
      rw [ih p1.2 p2.2 (fun x => ?_)]
      constructor
      · intro hx
        rcases List.mem_cons.mp ((h x).mp (List.mem_cons_of_mem _ hx)) with w | w
        · rw [w] at hx; exact absurd (p1.1 a hx) (fun q => lt_irr q)
        · exact w
      · intro hx
        rcases List.mem_cons.mp ((h x).mpr (List.mem_cons_of_mem _ hx)) with w | w
        · rw [w] at hx; exact absurd (p2.1 a hx) (fun q => lt_irr q)
        · exact w
section
variable {es : List tE} {q p : List Nat} {f g x : tE} {i : Nat}
theorem fx_mem (hs : srt es) (hx : x ∈ es) : ∃ i, fx es x.1 = some i ∧ es[i]? = some x := by
  obtain ⟨i, hi⟩ := List.mem_iff_getElem?.mp hx
  exact ⟨i, fx_of hs hi rfl, hi⟩
theorem fx_none (hs : srt es) : fx es q = none ↔ ∀ x ∈ es, x.1 ≠ q := by
  constructor
  · intro h x hx e
    obtain ⟨i, hi, -⟩ := fx_mem hs hx
    rw [e, h] at hi
    cases hi
  · intro h
    cases hf : fx es q with
    | none => rfl
    | some i =>
      obtain ⟨e, he, h1⟩ := fx_lt hf
      exact absurd h1 (h e (List.mem_of_getElem? he))
theorem srt_inj (hs : srt es) (h1 : f ∈ es) (h2 : g ∈ es) (e : f.1 = g.1) : f = g := by
  obtain ⟨i, hi, hf⟩ := fx_mem hs h1
  obtain ⟨j, hj, hg⟩ := fx_mem hs h2
  rw [e, hj] at hi
  cases hi
  rw [hf] at hg
  exact Option.some.inj hg
theorem kx_mem (hs : srt es) (hx : x ∈ es) : kx es x.1 = x.2.1 := by
  obtain ⟨i, hi, h2⟩ := fx_mem hs hx
  exact kx_at hi h2
theorem kx_1 (hs : srt es) : kx es q = 1 ↔ ∃ g ∈ es, g.1 = q ∧ g.2.1 = 1 := by
  constructor
  · intro h
    cases hf : fx es q with
    | none => rw [kx_no hf] at h; exact absurd h (by decide)
    | some i =>
      obtain ⟨e, he, h1⟩ := fx_lt hf
      rw [kx_at hf he] at h
      exact ⟨e, List.mem_of_getElem? he, h1, h⟩
  · rintro ⟨g, hg, rfl, h2⟩
    rw [kx_mem hs hg, h2]
theorem mem_iat {k : Nat} : x ∈ iat es k f ↔ x = f ∨ x ∈ es := by
  unfold iat
  rw [List.mem_append, List.mem_cons]
  constructor
  · rintro (h | h | h)
    · exact Or.inr (List.mem_of_mem_take h)
    · exact Or.inl h
    · exact Or.inr (List.mem_of_mem_drop h)
  · rintro (h | h)
    · exact Or.inr (Or.inl h)
    · rw [← List.take_append_drop k es] at h
      rcases List.mem_append.mp h with h | h
      · exact Or.inl h
      · exact Or.inr (Or.inr h)
theorem take_lt (hx : x ∈ es.take (fi es q)) : x.1 < q := by
  obtain ⟨j, hj⟩ := List.mem_iff_getElem?.mp hx
  have hl := (List.getElem?_eq_some_iff.mp hj).1
  rw [List.length_take] at hl
  rw [List.getElem?_take_of_lt (by omega)] at hj
  exact fi_lo (by omega) hj
theorem drop_gt (hs : srt es) (hn : fx es q = none) (hx : x ∈ es.drop (fi es q)) : q < x.1 := by
  obtain ⟨j, hj⟩ := List.mem_iff_getElem?.mp hx
  rw [List.getElem?_drop] at hj
  have := fi_hi (q := q) hs (Nat.le_add_right _ j) hj
  rcases lt3 x.1 q with w | w | w
  · exact absurd w this
  · exact absurd w ((fx_none hs).mp hn x (List.mem_of_getElem? hj))
  · exact w
theorem iat_srt (hs : srt es) (hn : fx es f.1 = none) : srt (iat es (fi es f.1) f) := by
  unfold iat srt
  rw [List.pairwise_append, List.pairwise_cons]
  have h0 := hs
  rw [← List.take_append_drop (fi es f.1) es] at h0
  have h1 := List.pairwise_append.mp h0
  refine ⟨h1.1, ⟨fun x hx => drop_gt hs hn hx, h1.2.1⟩, fun x hx y hy => ?_⟩
  rcases List.mem_cons.mp hy with w | w
  · rw [w]; exact take_lt hx
  · exact h1.2.2 x hx y w
theorem set_map (hi : fx es f.1 = some i) : (es.set i f).map Prod.fst = es.map Prod.fst := by
  obtain ⟨e, he, h1⟩ := fx_lt hi
  apply List.ext_getElem?
  intro k
  rw [List.getElem?_map, List.getElem?_map, List.getElem?_set]
  by_cases hk : i = k
  · subst hk
    rw [if_pos rfl, if_pos (List.getElem?_eq_some_iff.mp he).1, he]
    exact congrArg some h1.symm
  · rw [if_neg hk]
theorem srt_map {l1 l2 : List tE} (h : l1.map Prod.fst = l2.map Prod.fst) (hs : srt l2) : srt l1 := by
  have h1 : (l2.map Prod.fst).Pairwise (fun a b : List Nat => a < b) := List.pairwise_map.mpr hs
  rw [← h] at h1
  exact List.pairwise_map.mp h1
theorem set_srt (hs : srt es) (hi : fx es f.1 = some i) : srt (es.set i f) := srt_map (set_map hi) hs
theorem mem_set (hs : srt es) (hi : fx es f.1 = some i) : x ∈ es.set i f ↔ x = f ∨ (x ∈ es ∧ x.1 ≠ f.1) := by
  obtain ⟨e, he, h1⟩ := fx_lt hi
  have hl := List.getElem?_eq_some_iff.mp he
  have h2 := set_srt hs hi
  have hf : f ∈ es.set i f := List.mem_set hl.1 f
  constructor
  · intro hx
    by_cases h3 : x = f
    · exact Or.inl h3
    · right
      refine ⟨?_, fun h4 => h3 (srt_inj h2 hx hf h4)⟩
      rcases List.mem_or_eq_of_mem_set hx with w | w
      · exact w
      · exact absurd w h3
  · rintro (h3 | ⟨h3, h4⟩)
    · rw [h3]; exact hf
    · obtain ⟨j, hj⟩ := List.mem_iff_getElem?.mp h3
      have hne : i ≠ j := by
        rintro rfl
        rw [he] at hj
        exact h4 (by rw [← Option.some.inj hj]; exact h1)
      exact List.mem_of_getElem? (i := j) (by rw [List.getElem?_set_ne hne]; exact hj)
theorem pu_srt (hs : srt es) (hl : ¬ (fx es f.1 = none ∧ es.length = 40)) : srt (pu es f) := by
  cases h : fx es f.1 with
  | none =>
    rw [pu_new hs h (fun e => hl ⟨h, e⟩)]
    exact iat_srt hs h
  | some i =>
    rw [pu_old h]
    exact set_srt hs h
theorem mem_pu (hs : srt es) (hl : ¬ (fx es f.1 = none ∧ es.length = 40)) : x ∈ pu es f ↔ x = f ∨ (x ∈ es ∧ x.1 ≠ f.1) := by
  cases h : fx es f.1 with
  | none =>
    rw [pu_new hs h (fun e => hl ⟨h, e⟩), mem_iat]
    exact ⟨fun w => w.elim Or.inl (fun w => Or.inr ⟨w, (fx_none hs).mp h x w⟩), fun w => w.elim Or.inl (fun w => Or.inr w.1)⟩
  | some i =>
    rw [pu_old h]
    exact mem_set hs h
theorem mem_dr {al : Bool} : x ∈ dr q al es ↔ x ∈ es ∧ ¬ gn q al x := by
  unfold dr
  rw [List.mem_filter, decide_eq_true_eq]
theorem dr_srt {al : Bool} (hs : srt es) : srt (dr q al es) := List.Pairwise.filter _ hs
theorem dr_len {al : Bool} : (dr q al es).length ≤ es.length := List.length_filter_le _ _
theorem bw_irr : ¬ bw p p := by
  rintro ⟨h, -⟩
  rw [List.getElem?_eq_none (Nat.le_refl _)] at h
  cases h
theorem fx_dr (hs : srt es) : fx (dr p false es) p = none ↔ fx es p = none := by
  rw [fx_none (dr_srt hs), fx_none hs]
  constructor
  · intro h x hx e
    exact h x (mem_dr.mpr ⟨hx, by rintro (w | w); exact bw_irr (e ▸ w); exact absurd w.1 (by decide)⟩) e
  · intro h x hx
    exact h x (mem_dr.mp hx).1
theorem pu_dr (hs : srt es) (h40 : es.length ≤ 40) (hl : ¬ (fx es f.1 = none ∧ es.length = 40)) : pu (dr f.1 false es) f = dr f.1 false (pu es f) := by
  have hl2 : ¬ (fx (dr f.1 false es) f.1 = none ∧ (dr f.1 false es).length = 40) := by
    rintro ⟨h1, h2⟩
    have h3 := dr_len (q := f.1) (al := false) (es := es)
    exact hl ⟨(fx_dr hs).mp h1, by omega⟩
  refine srt_ext (pu_srt (dr_srt hs) hl2) (dr_srt (pu_srt hs hl)) (fun x => ?_)
  rw [mem_pu (dr_srt hs) hl2, mem_dr, mem_dr, mem_pu hs hl]
  constructor
  · rintro (w | ⟨⟨w1, w2⟩, w3⟩)
    · refine ⟨Or.inl w, ?_⟩
      rw [w]
      rintro (w | w)
      · exact bw_irr w
      · exact absurd w.1 (by decide)
    · exact ⟨Or.inr ⟨w1, w3⟩, w2⟩
  · rintro ⟨w | ⟨w1, w2⟩, w3⟩
    · exact Or.inl w
    · exact Or.inr ⟨⟨w1, w3⟩, w2⟩
theorem pf_srt {es' : List tE} (hs : srt es) (h : pf es f = some es') : srt es' := by
  unfold pf at h
  split at h
  · split at h
    · rename_i w; cases h; exact pu_srt hs w.2
    · cases h
  · split at h
    · split at h
      · rename_i w; cases h; exact dr_srt (pu_srt hs w.2)
      · cases h
    · split at h
      · split at h
        · cases h
        · cases h; exact dr_srt hs
      · split at h
        · split at h
          · cases h; exact dr_srt hs
          · cases h
        · cases h
end
