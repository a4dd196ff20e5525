/-! Path: loops -/
theorem s8_eq {c d : Nat} (hc : c < 256) (hd : d < 128) : sb_b c = nI d ↔ c = d := by
  rcases Nat.lt_or_ge c 128 with h | h
  · rw [s8_lo h]; exact nI_eq (by omega) (by omega)
  · constructor
    · intro e
      have h1 := s8_hi hc h
      rw [e] at h1
      exact absurd h1 (nI_pos (by omega))
    · intro e; omega
theorem sg_47 {p : List Nat} {k d : Nat} (hp : ∀ c ∈ p, c < 256) (hd : p[k]? = some d) : sg p k = 47 ↔ d = 47 := by
  rw [sg_at hd]
  exact s8_eq (hp d (List.mem_of_getElem? hd)) (by decide)
theorem take_s {p : List Nat} {k d : Nat} (hd : p[k]? = some d) : p.take (k + 1) = p.take k ++ [d] := by
  rw [List.take_add_one, hd]
  rfl
section
variable {G : tv_G} {h : tv_H} {a b : Nat} {p q : List Nat} {c z : Nat} {Q : tv_R → tv_H → Prop}
theorem l_Pa_names (hp : pa h a p) (hx : tv_Ev G mm_Pa_names 31 [some (.ref a), some (.int (nI (p.count 47))), some (.int (nI p.length))] [] h c z Q) : ∀ j k, j + k = p.length → tv_Ev G mm_Pa_names 4 [some (.ref a), some (.int (nI ((p.take k).count 47))), some (.int (nI k))] [] h c z Q := by
  have hl := hp.len
  obtain ⟨bs, h1, h2, h3, h4, h5, h6⟩ := id hp
  intro j
  induction j with
  | zero =>
    intro k hk
    have hk : k = p.length := by omega
    subst hk
    refine e_Pa_names_4 rfl ?_
    refine e_Pa_names_5 rfl ?_
    refine e_Pa_names_6 h1 rfl ?_
    refine e_Pa_names_9 (fun _ => ?_) (fun c1 => absurd (nI_le (Nat.le_refl _) (by omega)) c1)
    rw [List.take_length]
    exact hx
  | succ j ih =>
    intro k hk
    obtain ⟨d, hd⟩ : ∃ d, p[k]? = some d := ⟨_, List.getElem?_eq_getElem (by omega)⟩
    have hi := ih (k + 1) (by omega)
    rw [take_s hd, List.count_append, nI_succ] at hi
    refine e_Pa_names_4 rfl ?_
    refine e_Pa_names_5 rfl ?_
    refine e_Pa_names_6 h1 rfl ?_
    refine e_Pa_names_9 (fun c1 => absurd c1 (nI_ge (by omega) (by omega))) (fun _ => ?_)
    refine e_Pa_names_12 rfl ?_
    refine e_Pa_names_13 rfl ?_
    refine e_Pa_names_14 h1 (by decide) (c_Pa_signAt hp (by omega)) (kp ?_) xn
    refine e_Pa_names_17  ?_
    refine e_Pa_names_19 (fun c2 => ?_) (fun c2 => ?_)
    · refine e_Pa_names_25 rfl ?_
      refine e_Pa_names_28  ?_
      have hd0 : d ≠ 47 := fun e => c2 ((sg_47 h6 hd).mpr e)
      rw [List.count_cons_of_ne hd0, List.count_nil] at hi
      exact hi
    · refine e_Pa_names_22 rfl ?_
      refine e_Pa_names_25 rfl ?_
      refine e_Pa_names_28  ?_
      have hd0 : d = 47 := (sg_47 h6 hd).mp c2
      subst hd0
      rw [List.count_cons_self, List.count_nil, nI_succ] at hi
      exact hi
def nms (p : List Nat) : Nat := if p = [] then 0 else p.count 47 + 1
theorem c_Pa_names (hp : pa h a p) : tv_Ct G mm_Pa_names [.ref a] h 0 0 (rv (.int (nI (nms p))) (fun h' => h' = h)) := by
  obtain ⟨bs, h1, h2, h3, h4, h5, h6⟩ := id hp
  refine tv_ct rfl (by decide +kernel) (by simp [Value.category]) (Nat.le_of_ble_eq_true rfl) ?_
  refine e_Pa_names_0  ?_
  refine e_Pa_names_1 (Nat.le_of_ble_eq_true rfl) ?_
  refine e_Pa_names_2  ?_
  refine e_Pa_names_3 (Nat.le_of_ble_eq_true rfl) ?_
  refine l_Pa_names hp ?_ p.length 0 rfl
  refine e_Pa_names_31 rfl ?_
  refine e_Pa_names_32 h1 (by decide) (c_Pa_isNone hp) (kp ?_) xn
  refine e_Pa_names_35 (fun c1 => ?_) (fun c1 => ?_)
  · have hn : p ≠ [] := by rintro rfl; exact absurd c1 (by decide)
    refine e_Pa_names_42 rfl ?_
    refine e_Pa_names_43  ?_
    refine e_Pa_names_44  ?_
    exact e_Pa_names_45 ⟨by rw [nms, if_neg hn, nI_succ], rfl⟩
  · have hn : p = [] := by
      by_cases h9 : p = []
      · exact h9
      · rw [if_neg h9] at c1; exact absurd rfl c1
    refine e_Pa_names_38  ?_
    refine e_Pa_names_39  ?_
    exact e_Pa_names_45 ⟨by rw [nms, if_pos hn, nI_0], rfl⟩
/-- how many signs stand before the last '/' -/
def shl (p : List Nat) : Nat → Nat
  | 0 => 0
  | k + 1 => if p[k + 1]? = some 47 then k + 1 else shl p k
theorem l_Pa_shorter (hp : pa h a p) : ∀ k, k < p.length → tv_Ev G mm_Pa_shorter 7 [some (.ref a), some (.int (nI k))] [] h c z (rv (.int (nI (shl p k))) (fun h' => h' = h)) := by
  have hl := hp.len
  obtain ⟨bs, h1, h2, h3, h4, h5, h6⟩ := id hp
  intro k
  induction k with
  | zero =>
    intro hk
    refine e_Pa_shorter_7 rfl ?_
    refine e_Pa_shorter_8 (fun _ => ?_) (fun c1 => absurd (by decide) c1)
    refine e_Pa_shorter_29  ?_
    exact e_Pa_shorter_30 ⟨rfl, rfl⟩
  | succ k ih =>
    intro hk
    obtain ⟨d, hd⟩ : ∃ d, p[k + 1]? = some d := ⟨_, List.getElem?_eq_getElem hk⟩
    refine e_Pa_shorter_7 rfl ?_
    refine e_Pa_shorter_8 (fun c1 => absurd c1 (nI_nle (by omega) (by omega))) (fun _ => ?_)
    refine e_Pa_shorter_11 rfl ?_
    refine e_Pa_shorter_12 rfl ?_
    refine e_Pa_shorter_13 h1 (by decide) (c_Pa_signAt hp (by omega)) (kp ?_) xn
    refine e_Pa_shorter_16  ?_
    refine e_Pa_shorter_18 (fun c2 => ?_) (fun c2 => ?_)
    · have hd0 : d ≠ 47 := fun e => c2 ((sg_47 h6 hd).mpr e)
      have hi := ih (by omega)
      rw [← nI_m1] at hi
      refine e_Pa_shorter_23 rfl ?_
      refine e_Pa_shorter_26  ?_
      have e1 : shl p (k + 1) = shl p k := by
        rw [shl, hd, if_neg (fun e => hd0 (Option.some.inj e))]
      rw [e1]
      exact hi
    · have hd0 : d = 47 := (sg_47 h6 hd).mp c2
      subst hd0
      refine e_Pa_shorter_21 rfl ?_
      exact e_Pa_shorter_22 ⟨by rw [shl, if_pos hd], rfl⟩
/-- the length of the path one name shorter, 0 if there is none -/
def sh (p : List Nat) : Nat := shl p (p.length - 1)
theorem c_Pa_shorter (hp : pa h a p) (hn : p ≠ []) : tv_Ct G mm_Pa_shorter [.ref a] h 0 0 (rv (.int (nI (sh p))) (fun h' => h' = h)) := by
  have hl := hp.len
  obtain ⟨bs, h1, h2, h3, h4, h5, h6⟩ := id hp
  have hpos : 0 < p.length := List.length_pos_iff.mpr hn
  refine tv_ct rfl (by decide +kernel) (by simp [Value.category]) (Nat.le_of_ble_eq_true rfl) ?_
  refine e_Pa_shorter_0 rfl ?_
  refine e_Pa_shorter_1 h1 rfl ?_
  refine e_Pa_shorter_4  ?_
  refine e_Pa_shorter_5  ?_
  refine e_Pa_shorter_6 (Nat.le_of_ble_eq_true rfl) ?_
  have e1 : nI p.length - 1 = nI (p.length - 1) := by
    obtain ⟨n, hn⟩ : ∃ n, p.length = n + 1 := ⟨p.length - 1, by omega⟩
    rw [hn, nI_pred]; rfl
  have := l_Pa_shorter (G := G) (c := 0) (z := 0) hp (p.length - 1) (by omega)
  rw [← e1] at this
  exact this
theorem c_Pa_shorter0 (hp : pa h a p) (hn : p = []) : tv_Ct G mm_Pa_shorter [.ref a] h 0 0 (rv (.int (nI 0)) (fun h' => h' = h)) := by
  subst hn
  obtain ⟨bs, h1, h2, h3, h4, h5, h6⟩ := id hp
  refine tv_ct rfl (by decide +kernel) (by simp [Value.category]) (Nat.le_of_ble_eq_true rfl) ?_
  refine e_Pa_shorter_0 rfl ?_
  refine e_Pa_shorter_1 h1 rfl ?_
  refine e_Pa_shorter_4  ?_
  refine e_Pa_shorter_5  ?_
  refine e_Pa_shorter_6 (Nat.le_of_ble_eq_true rfl) ?_
  refine e_Pa_shorter_7 rfl ?_
  refine e_Pa_shorter_8 (fun _ => ?_) (fun c1 => absurd (by decide) c1)
  refine e_Pa_shorter_29  ?_
  exact e_Pa_shorter_30 ⟨rfl, rfl⟩
end
