/-! a move: lists -/
abbrev mvd (q : List Nat) (f : tE) : Prop := f.1 = q ∨ bw f.1 q
section
variable {es l L : List tE} {q1 q2 p : List Nat} {f g x y : tE} {i j : Nat}
theorem mvd_gn : gn q1 true f ↔ mvd q1 f := ⟨fun h => h.elim Or.inr (fun w => Or.inl w.2), fun h => h.elim (fun w => Or.inr ⟨rfl, w⟩) Or.inl⟩
theorem mvd_app (h : mvd q1 f) : ∃ t, f.1 = q1 ++ t ∧ (t = [] ∨ ∃ t', t = 47 :: t') := by
  rcases h with h | h
  · exact ⟨[], by rw [List.append_nil]; exact h, Or.inl rfl⟩
  · obtain ⟨r, hr⟩ := bw_iff.mp h
    exact ⟨47 :: r, hr, Or.inr ⟨r, rfl⟩⟩
theorem mvp_app {t : List Nat} (h : mvd q1 f) (ht : f.1 = q1 ++ t) : mvp q1 q2 f = (q2 ++ t, f.2) := by
  unfold mvp
  rw [if_pos h, ht, List.drop_left]
theorem mvp_no (h : ¬ mvd q1 f) : mvp q1 q2 f = f := by
  unfold mvp
  rw [if_neg h]
theorem mvp_2 : (mvp q1 q2 f).2 = f.2 := by
  unfold mvp
  split <;> rfl
theorem dpk_mem {q : List Nat} : ∀ (es : List tE) {y : tE}, y ∈ es → bw y.1 q → nms y.1 ≤ dpk q es := by
  intro es
  have H : ∀ (es : List tE) (m : Nat), m ≤ es.foldl (fun m f => if bw f.1 q then max m (nms f.1) else m) m := by
    intro es
    induction es with
    | nil => intro m; exact Nat.le_refl m
    | cons f es ih =>
      intro m
      rw [List.foldl_cons]
      refine Nat.le_trans ?_ (ih _)
      split
      · exact Nat.le_max_left _ _
      · exact Nat.le_refl m
  have K : ∀ (es : List tE) (m : Nat) (y : tE), y ∈ es → bw y.1 q → nms y.1 ≤ es.foldl (fun m f => if bw f.1 q then max m (nms f.1) else m) m := by
    intro es
    induction es with
    | nil => intro m y hy; cases hy
    | cons f es ih =>
      intro m y hy hb
      rw [List.foldl_cons]
      rcases List.mem_cons.mp hy with w | w
      · subst w
        rw [if_pos hb]
        exact Nat.le_trans (Nat.le_max_right _ _) (H es _)
      · exact ih _ y w hb
  intro y hy hb
  exact K es _ y hy hb
theorem se_hi : ∀ {n m : Nat} {f : tE}, se L p n ≤ m → m < n → L[m]? = some f → p < f.1 := by
  intro n
  induction n with
  | zero => intro m f _ h; omega
  | succ n ih =>
    intro m f h1 h2 hf
    rw [se] at h1
    cases hL : L[n]? with
    | none =>
      rw [hL] at h1
      have h1 : n + 1 ≤ m := h1
      omega
    | some g =>
      rw [hL] at h1
      have h1 : (if p < g.1 then se L p n else n + 1) ≤ m := h1
      split at h1
      · rename_i w
        rcases Nat.lt_or_ge m n with k | k
        · exact ih h1 k hf
        · have : m = n := by omega
          subst this
          rw [hL] at hf
          rw [← Option.some.inj hf]
          exact w
      · omega
theorem se_lo : ∀ {n m : Nat} {f : tE}, n ≤ L.length → m + 1 = se L p n → L[m]? = some f → ¬ p < f.1 := by
  intro n
  induction n with
  | zero => intro m f _ h; rw [se] at h; omega
  | succ n ih =>
    intro m f hl h1 hf
    have hL : L[n]? = some L[n] := List.getElem?_eq_getElem (by omega)
    rw [se, hL] at h1
    have h1 : m + 1 = if p < L[n].1 then se L p n else n + 1 := h1
    split at h1
    · exact ih (by omega) h1 hf
    · rename_i w
      have : m = n := by omega
      subst this
      rw [hL] at hf
      rw [← Option.some.inj hf]
      exact w
/-- sinking rows one after the other puts a list in order -/
theorem sn_srt (hn : (l.map Prod.fst).Nodup) : ∀ i, i ≤ l.length → srt ((sn l i).take i) ∧ (sn l i).drop i = l.drop i := by
  intro i
  induction i with
  | zero => intro _; exact ⟨List.Pairwise.nil, rfl⟩
  | succ i ih =>
    intro hi
    obtain ⟨h1, h2⟩ := ih (by omega)
    have hlen := sn_len l i
    have hx : (sn l i)[i]? = some (sn l i)[i] := List.getElem?_eq_getElem (by omega)
    have hnd : ((sn l i).map Prod.fst).Nodup := ((sn_mem l i).map Prod.fst).nodup_iff.mpr hn
    generalize hx0 : (sn l i)[i] = x at hx
    have hsn : sn l (i + 1) = Hl (sn l i) (se (sn l i) x.1 i) i x := by
      rw [sn]
      split
      · rename_i y hy
        rw [hx] at hy
        cases hy
        rfl
      · rename_i hy
        rw [hx] at hy
        cases hy
    clear hx0 ih
    generalize hL : sn l i = L at *
    have hjl := se_le L x.1 i
    generalize hj : se L x.1 i = j at *
    have e1 : (Hl L j i x).take (i + 1) = L.take j ++ x :: (L.drop j).take (i - j) := by
      unfold Hl
      have hlt : (L.take j ++ x :: (L.drop j).take (i - j)).length = i + 1 := by simp; omega
      have e0 : L.take j ++ x :: ((L.drop j).take (i - j) ++ L.drop (i + 1)) = (L.take j ++ x :: (L.drop j).take (i - j)) ++ L.drop (i + 1) := by simp
      rw [e0, List.take_append_of_le_length (by omega), List.take_of_length_le (by omega)]
    have e2 : (Hl L j i x).drop (i + 1) = L.drop (i + 1) := by
      unfold Hl
      have hlt : (L.take j ++ x :: (L.drop j).take (i - j)).length = i + 1 := by simp; omega
      have e0 : L.take j ++ x :: ((L.drop j).take (i - j) ++ L.drop (i + 1)) = (L.take j ++ x :: (L.drop j).take (i - j)) ++ L.drop (i + 1) := by simp
      rw [e0, ← hlt, List.drop_left]
    rw [hsn, e1, e2]
    refine ⟨?_, ?_⟩
    · have e3 : L.take i = L.take j ++ (L.drop j).take (i - j) := by
        rw [← List.take_add, show j + (i - j) = i by omega]
      rw [e3] at h1
      obtain ⟨s1, s2, s3⟩ := List.pairwise_append.mp h1
      have hi2 : ∀ m f, L[m]? = some f → m ≠ i → f.1 ≠ x.1 := by
        intro m f hf hm e
        have a1 : (L.map Prod.fst)[m]? = some x.1 := by rw [List.getElem?_map, hf, ← e]; rfl
        have a2 : (L.map Prod.fst)[i]? = some x.1 := by rw [List.getElem?_map, hx]; rfl
        have b1 := List.getElem?_eq_some_iff.mp a1
        have b2 := List.getElem?_eq_some_iff.mp a2
        exact hm ((List.getElem_inj hnd).mp (b1.2.trans b2.2.symm))
      have hlo : ∀ y ∈ L.take j, y.1 < x.1 := by
        intro y hy
        have hjpos : 0 < j := by
          rcases Nat.eq_zero_or_pos j with w | w
          · rw [w] at hy; cases hy
          · exact w
        have hj1 : L[j - 1]? = some L[j - 1] := List.getElem?_eq_getElem (by omega)
        have c1 := se_lo (p := x.1) (n := i) (m := j - 1) (by omega) (by omega) hj1
        have c2 : L[j - 1].1 < x.1 := by
          rcases lt3 L[j - 1].1 x.1 with w | w | w
          · exact w
          · exact absurd w (hi2 _ _ hj1 (by omega))
          · exact absurd w c1
        obtain ⟨m, hm⟩ := List.mem_iff_getElem?.mp hy
        have hml := (List.getElem?_eq_some_iff.mp hm).1
        rw [List.length_take] at hml
        rw [List.getElem?_take_of_lt (by omega)] at hm
        rcases Nat.lt_or_ge m (j - 1) with w | w
        · have d1 : (L.take j)[m]? = some y := by rw [List.getElem?_take_of_lt (by omega)]; exact hm
          have d2 : (L.take j)[j - 1]? = some L[j - 1] := by rw [List.getElem?_take_of_lt (by omega)]; exact hj1
          exact lt_tr (idx_srt s1 d1 d2 w) c2
        · have : m = j - 1 := by omega
          subst this
          rw [hj1] at hm
          rw [← Option.some.inj hm]
          exact c2
      have hhi : ∀ y ∈ (L.drop j).take (i - j), x.1 < y.1 := by
        intro y hy
        obtain ⟨m, hm⟩ := List.mem_iff_getElem?.mp hy
        have hml := (List.getElem?_eq_some_iff.mp hm).1
        rw [List.length_take, List.length_drop] at hml
        rw [List.getElem?_take_of_lt (by omega), List.getElem?_drop] at hm
        exact se_hi (n := i) (m := j + m) (by omega) (by omega) hm
      unfold srt
      rw [List.pairwise_append, List.pairwise_cons]
      refine ⟨s1, ⟨hhi, s2⟩, fun y hy z hz => ?_⟩
      rcases List.mem_cons.mp hz with w | w
      · rw [w]; exact hlo y hy
      · exact s3 y hy z w
    · have := congrArg (List.drop 1) h2
      rw [List.drop_drop, List.drop_drop] at this
      exact this
/-- the reference's way to move -/
def rmv (q1 q2 : List Nat) (es : List tE) : Nat → List tE
  | 0 => dr q1 true es
  | i + 1 => match es[i]? with
    | some f => if mvd q1 f then iat (rmv q1 q2 es i) (fi (rmv q1 q2 es i) (mvp q1 q2 f).1) (mvp q1 q2 f) else rmv q1 q2 es i
    | none => rmv q1 q2 es i
theorem rmv_s (hi : es[i]? = some f) : rmv q1 q2 es (i + 1) = if mvd q1 f then iat (rmv q1 q2 es i) (fi (rmv q1 q2 es i) (mvp q1 q2 f).1) (mvp q1 q2 f) else rmv q1 q2 es i := by
  rw [rmv, hi]
theorem rmv_mem : ∀ i, x ∈ rmv q1 q2 es i ↔ (x ∈ es ∧ ¬ mvd q1 x) ∨ ∃ y ∈ es.take i, mvd q1 y ∧ x = mvp q1 q2 y := by
  intro i
  induction i with
  | zero =>
    rw [rmv, mem_dr, mvd_gn]
    constructor
    · exact Or.inl
    · rintro (h | ⟨y, hy, -⟩)
      · exact h
      · cases hy
  | succ i ih =>
    cases hi : es[i]? with
    | none =>
      have e1 : es.take (i + 1) = es.take i := by
        rw [List.getElem?_eq_none_iff] at hi
        rw [List.take_of_length_le (by omega), List.take_of_length_le (by omega)]
      rw [rmv, hi, e1]
      exact ih
    | some f =>
      rw [rmv_s hi, take_g hi]
      by_cases h : mvd q1 f
      · rw [if_pos h, mem_iat, ih]
        constructor
        · rintro (w | w | ⟨y, hy, w⟩)
          · exact Or.inr ⟨f, List.mem_append_right _ List.mem_cons_self, h, w⟩
          · exact Or.inl w
          · exact Or.inr ⟨y, List.mem_append_left _ hy, w⟩
        · rintro (w | ⟨y, hy, w1, w2⟩)
          · exact Or.inr (Or.inl w)
          · rcases List.mem_append.mp hy with k | k
            · exact Or.inr (Or.inr ⟨y, k, w1, w2⟩)
            · rw [List.mem_singleton.mp k] at w2
              exact Or.inl w2
      · rw [if_neg h, ih]
        constructor
        · rintro (w | ⟨y, hy, w⟩)
          · exact Or.inl w
          · exact Or.inr ⟨y, List.mem_append_left _ hy, w⟩
        · rintro (w | ⟨y, hy, w1, w2⟩)
          · exact Or.inl w
          · rcases List.mem_append.mp hy with k | k
            · exact Or.inr ⟨y, k, w1, w2⟩
            · rw [List.mem_singleton.mp k] at w1
              exact absurd w1 h
theorem flt_len (P : tE → Bool) : ∀ l : List tE, (l.filter P).length + (l.filter (fun x => !P x)).length = l.length := by
  intro l
  induction l with
  | nil => rfl
  | cons a l ih =>
    rw [List.length_cons]
    cases h : P a with
    | true =>
      rw [List.filter_cons_of_pos h, List.filter_cons_of_neg (p := fun x => !P x) (by simp [h]), List.length_cons]
      omega
    | false =>
      rw [List.filter_cons_of_neg (by simp [h]), List.filter_cons_of_pos (p := fun x => !P x) (by simp [h]), List.length_cons]
      omega
theorem rmv_len : ∀ i, i ≤ es.length → (rmv q1 q2 es i).length + ((es.drop i).filter (fun f => decide (mvd q1 f))).length = es.length := by
  intro i
  induction i with
  | zero =>
    intro _
    rw [rmv, List.drop_zero]
    unfold dr
    have h1 := flt_len (fun f => decide (¬ gn q1 true f)) es
    have h2 : es.filter (fun x => !decide (¬ gn q1 true x)) = es.filter (fun f => decide (mvd q1 f)) := by
      apply List.filter_congr
      intro x _
      by_cases w : mvd q1 x
      · have w2 := mvd_gn.mpr w
        simp [w, w2]
      · have w2 : ¬ gn q1 true x := fun q => w (mvd_gn.mp q)
        simp [w, w2]
    rw [h2] at h1
    exact h1
  | succ i ih =>
    intro hi
    have ih := ih (by omega)
    have hei : es[i]? = some es[i] := List.getElem?_eq_getElem (by omega)
    rw [drop_g hei] at ih
    rw [rmv_s hei]
    by_cases h : mvd q1 es[i]
    · rw [List.filter_cons_of_pos (p := fun f => decide (mvd q1 f)) (decide_eq_true h), List.length_cons] at ih
      rw [if_pos h, iat_len (fi_le _ _)]
      omega
    · rw [List.filter_cons_of_neg (p := fun f => decide (mvd q1 f)) (by rw [decide_eq_true_eq]; exact h)] at ih
      rw [if_neg h]
      exact ih
end
