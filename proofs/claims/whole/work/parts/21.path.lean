/-! Path -/
/-- a Path object at a with the signs p -/
def pa (h : tv_H) (a : Nat) (p : List Nat) : Prop := ∃ bs : List Int32, h[a]? = some (2, [.ref (a + 1), .int (nI p.length)]) ∧ h[a + 1]? = some (100, bs.map Value.int) ∧ bs.length = 19 ∧ p.map sb_b <+: bs ∧ (∀ b ∈ bs, fits .byte (.int b) = true) ∧ ∀ c ∈ p, c < 256
theorem pa.len {h : tv_H} {a : Nat} {p : List Nat} (hp : pa h a p) : p.length ≤ 19 := by
  obtain ⟨bs, -, -, h3, h4, -⟩ := hp
  have h5 := h4.length_le
  rw [List.length_map] at h5
  omega
theorem pa.kept {h h' : tv_H} {a : Nat} {p : List Nat} (hp : pa h a p) (e1 : h'[a]? = h[a]?) (e2 : h'[a + 1]? = h[a + 1]?) : pa h' a p := by
  obtain ⟨bs, h1, h2, h3⟩ := hp
  exact ⟨bs, e1.trans h1, e2.trans h2, h3⟩
/-- the sign at k, or -1 -/
def sg (p : List Nat) (k : Nat) : Int32 := match p[k]? with
  | some c => sb_b c
  | none => -1
theorem sg_ge {p : List Nat} {k : Nat} (h : p.length ≤ k) : sg p k = -1 := by
  unfold sg
  rw [List.getElem?_eq_none h]
theorem sg_at {p : List Nat} {k c : Nat} (h : p[k]? = some c) : sg p k = sb_b c := by
  unfold sg
  rw [h]
theorem pre_get {p : List Nat} {bs : List Int32} (h : p.map sb_b <+: bs) {k c : Nat} (hk : p[k]? = some c) : (bs.map Value.int)[k]? = some (.int (sb_b c)) := by
  obtain ⟨t, rfl⟩ := h
  have hl := (List.getElem?_eq_some_iff.mp hk).1
  rw [List.getElem?_map, List.getElem?_append_left (by simpa using hl), List.getElem?_map, hk]
  rfl
section
variable {G : tv_G} {h : tv_H} {a b : Nat} {p q : List Nat} {c z : Nat} {Q : tv_R → tv_H → Prop}
theorem c_Pa_isNone (hp : pa h a p) : tv_Ct G mm_Pa_isNone [.ref a] h 0 0 (rv (.int (if p = [] then 1 else 0)) (fun h' => h' = h)) := by
  have hl := hp.len
  obtain ⟨bs, h1, h2, h3, h4, h5⟩ := hp
  refine tv_ct rfl (by decide +kernel) (by simp [Value.category]) (Nat.le_of_ble_eq_true rfl) ?_
  refine e_Pa_isNone_0 rfl ?_
  refine e_Pa_isNone_1 h1 rfl ?_
  refine e_Pa_isNone_4 (fun c1 => ?_) (fun c1 => ?_)
  · refine e_Pa_isNone_11  ?_
    exact e_Pa_isNone_12 (Or.inl rfl) ⟨by rw [if_neg (by rintro rfl; exact c1 rfl)], rfl⟩
  · refine e_Pa_isNone_7  ?_
    refine e_Pa_isNone_8  ?_
    have : p = [] := List.eq_nil_of_length_eq_zero ((nI_eq (by omega) (by omega)).mp (c1.trans nI_0.symm))
    exact e_Pa_isNone_12 (Or.inr rfl) ⟨by rw [if_pos this], rfl⟩
theorem c_Pa_clear (hp : pa h a p) : tv_Ct G mm_Pa_clear [.ref a] h 0 0 (rn (fun h' => pa h' a [] ∧ fr (fun b => b = a) h h')) := by
  obtain ⟨bs, h1, h2, h3, h4, h5, h6⟩ := hp
  refine tv_ct rfl (by decide +kernel) (by simp [Value.category]) (Nat.le_of_ble_eq_true rfl) ?_
  refine e_Pa_clear_0 rfl ?_
  refine e_Pa_clear_1  ?_
  refine e_Pa_clear_2 h1 (Nat.le_of_ble_eq_true rfl) ?_
  exact e_Pa_clear_5 ⟨rfl, ⟨bs, gs_eq h1, gs_ne h2 (by omega), h3, List.nil_prefix, h5, fun c hc => by cases hc⟩, fr.set rfl⟩
theorem c_Pa_signAt (hp : pa h a p) {k : Nat} (hk : k < 2 ^ 31) : tv_Ct G mm_Pa_signAt [.ref a, .int (nI k)] h 0 0 (rv (.int (sg p k)) (fun h' => h' = h)) := by
  have hl := hp.len
  obtain ⟨bs, h1, h2, h3, h4, h5⟩ := hp
  refine tv_ct rfl (by decide +kernel) (by simp [Value.category]) (Nat.le_of_ble_eq_true rfl) ?_
  refine e_Pa_signAt_0 rfl ?_
  refine e_Pa_signAt_1 (fun c1 => absurd c1 (nI_pos hk)) (fun _ => ?_)
  refine e_Pa_signAt_4 rfl ?_
  refine e_Pa_signAt_5 rfl ?_
  refine e_Pa_signAt_6 h1 rfl ?_
  refine e_Pa_signAt_9 (fun c1 => ?_) (fun c1 => ?_)
  · refine e_Pa_signAt_27  ?_
    exact e_Pa_signAt_28 ⟨by rw [sg_ge ((nI_leI (by omega) hk).mp c1)], rfl⟩
  · have hlt : k < p.length := by
      rcases Nat.lt_or_ge k p.length with h9 | h9
      · exact h9
      · exact absurd (nI_le h9 hk) c1
    obtain ⟨d, hd⟩ : ∃ d, p[k]? = some d := ⟨_, List.getElem?_eq_getElem hlt⟩
    refine e_Pa_signAt_12 rfl ?_
    refine e_Pa_signAt_13  ?_
    refine e_Pa_signAt_15 (fun c2 => absurd c2 (nI_ge (b := 19) (by omega) (by decide))) (fun _ => ?_)
    refine e_Pa_signAt_18 rfl ?_
    refine e_Pa_signAt_19 h1 rfl ?_
    refine e_Pa_signAt_22 rfl ?_
    refine e_Pa_signAt_23 k h2 rfl (pre_get h4 hd) (by simp; omega) ?_
    refine e_Pa_signAt_24  ?_
    exact e_Pa_signAt_28 ⟨by rw [sg_at hd], rfl⟩
theorem c_Pa_append (hp : pa h a p) {x : Nat} (hx : x < 256) (hl : p.length < 19) : tv_Ct G mm_Pa_append [.ref a, .int (nI x)] h 0 0 (rn (fun h' => pa h' a (p ++ [x]) ∧ fr (fun b => b = a ∨ b = a + 1) h h')) := by
  obtain ⟨bs, h1, h2, h3, h4, h5, h6⟩ := hp
  refine tv_ct rfl (by decide +kernel) (by simp [Value.category]) (Nat.le_of_ble_eq_true rfl) ?_
  refine e_Pa_append_0 rfl ?_
  refine e_Pa_append_1 h1 rfl ?_
  refine e_Pa_append_4  ?_
  refine e_Pa_append_6 (fun c2 => absurd c2 (nI_ge (b := 19) (by omega) (by decide))) (fun _ => ?_)
  refine e_Pa_append_9 rfl ?_
  refine e_Pa_append_10 h1 rfl ?_
  refine e_Pa_append_13 rfl ?_
  refine e_Pa_append_14 h1 rfl ?_
  refine e_Pa_append_17 rfl ?_
  refine e_Pa_append_18  ?_
  refine e_Pa_append_19 p.length h2 rfl (by simp; omega) (by simp; omega) ?_
  rw [i8i8]
  have g1 : (h.set (a + 1) (100, (bs.map Value.int).set p.length (.int (nI x).toInt8.toInt32)))[a]? = some (2, [.ref (a + 1), .int (nI p.length)]) := gs_ne h1 (by omega)
  refine e_Pa_append_20 rfl ?_
  refine e_Pa_append_21 rfl ?_
  refine e_Pa_append_22 g1 rfl ?_
  refine e_Pa_append_25  ?_
  refine e_Pa_append_26  ?_
  refine e_Pa_append_27 g1 (Nat.le_of_ble_eq_true rfl) ?_
  refine e_Pa_append_30 ⟨rfl, ⟨bs.set p.length (sb_b x), ?_, ?_, by simpa using h3, ?_, ?_, ?_⟩, (fr.set (Or.inr rfl)).tr (fr.set (Or.inl rfl))⟩
  · rw [gs_eq g1]
    rw [List.length_append]
    show some (2, [Value.ref (a + 1), Value.int (nI p.length + 1)]) = _
    rw [nI_1]
    rfl
  · refine gs_ne ?_ (by omega)
    rw [gs_eq h2, List.map_set]
    rfl
  · obtain ⟨t, rfl⟩ := h4
    cases t with
    | nil => simp at h3; omega
    | cons u t =>
      refine ⟨t, ?_⟩
      rw [List.set_append_right _ _ (by simp)]
      simp
  · intro b hb
    rcases List.mem_or_eq_of_mem_set hb with h9 | h9
    · exact h5 b h9
    · rw [h9]; exact sb_fitB x
  · intro d hd
    rcases List.mem_append.mp hd with h9 | h9
    · exact h6 d h9
    · rw [List.mem_singleton.mp h9]; exact hx
end
