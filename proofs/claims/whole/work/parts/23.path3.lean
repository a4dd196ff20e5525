/-! Path: the order -/
def ov : List Nat → List Nat → Int32
  | [], [] => 0
  | [], b :: _ => -1 - nI b
  | a :: _, [] => nI a - (-1)
  | a :: p, b :: q => if a = b then ov p q else nI a - nI b
/-- small signs -/
def sm (p : List Nat) : Prop := ∀ c ∈ p, c < 128
theorem sm.tail {a : Nat} {p : List Nat} (h : sm (a :: p)) : sm p := fun c hc => h c (List.mem_cons_of_mem _ hc)
theorem sm.head {a : Nat} {p : List Nat} (h : sm (a :: p)) : a < 128 := h a List.mem_cons_self
theorem sm.take {p : List Nat} {n : Nat} (h : sm p) : sm (p.take n) := fun c hc => h c (List.mem_of_mem_take hc)
theorem sm.drop {p : List Nat} {n : Nat} (h : sm p) : sm (p.drop n) := fun c hc => h c (List.mem_of_mem_drop hc)
theorem ov_a {b : Nat} (h : b < 128) : (-1 - nI b).toInt = -1 - (b : Int) := by
  have H : ∀ b, b < 128 → (-1 - nI b).toInt = -1 - (b : Int) := by decide +kernel
  exact H b h
theorem ov_b {b : Nat} (h : b < 128) : (nI b - (-1)).toInt = (b : Int) + 1 := by
  have H : ∀ b, b < 128 → (nI b - (-1)).toInt = (b : Int) + 1 := by decide +kernel
  exact H b h
theorem ov_int : ∀ {p q : List Nat}, sm p → sm q → ((ov p q).toInt = 0 ↔ p = q) ∧ ((ov p q).toInt < 0 ↔ p < q) ∧ (0 < (ov p q).toInt ↔ q < p)
  | [], [], _, _ => by
    refine ⟨⟨fun _ => rfl, fun _ => rfl⟩, ⟨fun h => absurd h (by decide), fun h => absurd h (List.lt_irrefl _)⟩, ⟨fun h => absurd h (by decide), fun h => absurd h (List.lt_irrefl _)⟩⟩
  | [], b :: q, _, hq => by
    rw [ov, ov_a hq.head]
    refine ⟨⟨fun h => by omega, fun h => by cases h⟩, ⟨fun _ => List.nil_lt_cons _ _, fun _ => by omega⟩, ⟨fun h => by omega, fun h => absurd h (List.not_lt_nil _)⟩⟩
  | a :: p, [], hp, _ => by
    rw [ov, ov_b hp.head]
    refine ⟨⟨fun h => by omega, fun h => by cases h⟩, ⟨fun h => by omega, fun h => absurd h (List.not_lt_nil _)⟩, ⟨fun _ => List.nil_lt_cons _ _, fun _ => by omega⟩⟩
  | a :: p, b :: q, hp, hq => by
    have ih := ov_int hp.tail hq.tail
    have h1 := hp.head
    have h2 := hq.head
    rw [ov]
    by_cases hab : a = b
    · subst hab
      rw [if_pos rfl, List.cons_lt_cons_iff, List.cons_lt_cons_iff]
      refine ⟨by rw [ih.1]; simp, by rw [ih.2.1]; simp, by rw [ih.2.2]; simp⟩
    · rw [if_neg hab, pk_sub_toInt (by omega) (by omega), List.cons_lt_cons_iff, List.cons_lt_cons_iff]
      refine ⟨⟨fun h => by omega, fun h => absurd (List.cons.inj h).1 hab⟩, ⟨fun h => Or.inl (by omega), fun h => ?_⟩, ⟨fun h => Or.inl (by omega), fun h => ?_⟩⟩
      · rcases h with h | ⟨h, -⟩
        · omega
        · exact absurd h hab
      · rcases h with h | ⟨h, -⟩
        · omega
        · exact absurd h.symm hab
theorem ov_eq {p q : List Nat} (hp : sm p) (hq : sm q) : ov p q = 0 ↔ p = q := by
  rw [← (ov_int hp hq).1]
  exact ⟨fun h => by rw [h]; rfl, fun h => Int32.toInt_inj.mp (by rw [h]; rfl)⟩
theorem ov_lt {p q : List Nat} (hp : sm p) (hq : sm q) : ov p q < 0 ↔ p < q := by
  rw [← (ov_int hp hq).2.1, Int32.lt_iff_toInt_lt]; rfl
theorem ov_gt {p q : List Nat} (hp : sm p) (hq : sm q) : 0 < ov p q ↔ q < p := by
  rw [← (ov_int hp hq).2.2, Int32.lt_iff_toInt_lt]; rfl
theorem ov_ge {p q : List Nat} (hp : sm p) (hq : sm q) : 0 ≤ ov p q ↔ ¬ p < q := by
  rw [← ov_lt hp hq, Int32.not_lt]
theorem sg_sm {p : List Nat} (hp : sm p) (k : Nat) : (∃ c, p[k]? = some c ∧ c < 128 ∧ sg p k = nI c ∧ p.drop k = c :: p.drop (k + 1)) ∨ (p.length ≤ k ∧ sg p k = -1 ∧ p.drop k = [] ∧ p.drop (k + 1) = []) := by
  rcases Nat.lt_or_ge k p.length with h | h
  · have hg : p[k]? = some p[k] := List.getElem?_eq_getElem h
    have hc := hp p[k] (List.getElem_mem h)
    exact Or.inl ⟨p[k], hg, hc, by rw [sg_at hg, s8_lo hc], List.drop_eq_getElem_cons h⟩
  · exact Or.inr ⟨h, sg_ge h, List.drop_eq_nil_of_le h, List.drop_eq_nil_of_le (by omega)⟩
theorem m1_ne {c : Nat} (h : c < 128) : ¬ nI c = -1 := by
  have H : ∀ c, c < 128 → ¬ nI c = -1 := by decide +kernel
  exact H c h
theorem ov_step {p q : List Nat} (hp : sm p) (hq : sm q) (k : Nat) : ov (p.drop k) (q.drop k) = if sg p k = sg q k then ov (p.drop (k + 1)) (q.drop (k + 1)) else sg p k - sg q k := by
  rcases sg_sm hp k with ⟨c, -, hc, e1, e2⟩ | ⟨-, e1, e2, e2'⟩ <;> rcases sg_sm hq k with ⟨d, -, hd, e3, e4⟩ | ⟨-, e3, e4, e4'⟩
  · rw [e1, e2, e3, e4, ov]
    by_cases h : c = d
    · rw [if_pos h, if_pos (by rw [h])]
    · rw [if_neg h, if_neg (fun e => h ((nI_eq (by omega) (by omega)).mp e))]
  · rw [e1, e2, e3, e4, ov, if_neg (m1_ne hc)]
  · rw [e1, e2, e3, e4, ov, if_neg (fun e => m1_ne hd e.symm)]
  · rw [e1, e3, if_pos rfl, e2, e4, e2', e4']
theorem sg_take {q : List Nat} {m k : Nat} : sg (q.take m) k = if k < m then sg q k else -1 := by
  unfold sg
  by_cases h : k < m
  · rw [if_pos h, List.getElem?_take_of_lt h]
  · rw [if_neg h, List.getElem?_take_eq_none (by omega)]
section
variable {G : tv_G} {h : tv_H} {a b : Nat} {p q : List Nat} {c z : Nat} {Q : tv_R → tv_H → Prop}
theorem l_Pa_order (hp : pa h a p) (hq : pa h b q) (sp : sm p) (sq : sm q) {m : Nat} (hm : m < 2 ^ 31) : ∀ j k, j + k = 19 → ∀ w, tv_Ev G mm_Pa_order 2 [some (.ref a), some (.ref b), some (.int (nI m)), some (.int (nI k)), w] [] h c z (rv (.int (ov (p.drop k) ((q.take m).drop k))) (fun h' => h' = h)) := by
  have hl := hp.len
  have hlq := hq.len
  obtain ⟨bs, h1, -⟩ := id hp
  obtain ⟨cs, g1, -⟩ := id hq
  intro j
  induction j with
  | zero =>
    intro k hk w
    have hk : k = 19 := by omega
    subst hk
    refine e_Pa_order_2 rfl ?_
    refine e_Pa_order_3  ?_
    refine e_Pa_order_5 (fun _ => ?_) (fun c1 => absurd (by decide) c1)
    refine e_Pa_order_49  ?_
    rw [List.drop_eq_nil_of_le hl, List.drop_eq_nil_of_le (by rw [List.length_take]; omega)]
    exact e_Pa_order_50 ⟨rfl, rfl⟩
  | succ j ih =>
    intro k hk w
    have hs := ov_step sp (sq.take (n := m)) k
    have hst := sg_take (q := q) (m := m) (k := k)
    refine e_Pa_order_2 rfl ?_
    refine e_Pa_order_3  ?_
    refine e_Pa_order_5 (fun c1 => absurd c1 (nI_ge (b := 19) (by omega) (by decide))) (fun _ => ?_)
    refine e_Pa_order_8 rfl ?_
    refine e_Pa_order_9 rfl ?_
    have key : ∀ w, tv_Ev G mm_Pa_order 22 [some (.ref a), some (.ref b), some (.int (nI m)), some (.int (nI k)), w] [.int (sg (q.take m) k)] h c z (rv (.int (ov (p.drop k) ((q.take m).drop k))) (fun h' => h' = h)) := by
      intro w
      refine e_Pa_order_22 (Nat.le_of_ble_eq_true rfl) ?_
      refine e_Pa_order_24 rfl ?_
      refine e_Pa_order_25 rfl ?_
      refine e_Pa_order_26 h1 (by decide) (c_Pa_signAt hp (by omega)) (kp ?_) xn
      refine e_Pa_order_29 rfl ?_
      refine e_Pa_order_31 (fun c2 => ?_) (fun c2 => ?_)
      · refine e_Pa_order_43 rfl ?_
        refine e_Pa_order_46  ?_
        have hi := ih (k + 1) (by omega) (some (.int (sg (q.take m) k)))
        rw [nI_succ] at hi
        rw [hs, if_pos c2]
        exact hi
      · refine e_Pa_order_34 rfl ?_
        refine e_Pa_order_35 rfl ?_
        refine e_Pa_order_36 h1 (by decide) (c_Pa_signAt hp (by omega)) (kp ?_) xn
        refine e_Pa_order_39 rfl ?_
        refine e_Pa_order_41  ?_
        exact e_Pa_order_42 ⟨by rw [hs, if_neg c2], rfl⟩
    refine e_Pa_order_10 (fun c1 => ?_) (fun c1 => ?_)
    · have hmk : m ≤ k := (nI_leI hm (by omega)).mp c1
      rw [if_neg (by omega)] at hst
      refine e_Pa_order_21  ?_
      rw [← hst]
      exact key w
    · have hmk : k < m := by
        rcases Nat.lt_or_ge k m with h9 | h9
        · exact h9
        · exact absurd (nI_le h9 (by omega)) c1
      rw [if_pos hmk] at hst
      refine e_Pa_order_13 rfl ?_
      refine e_Pa_order_14 rfl ?_
      refine e_Pa_order_15 g1 (by decide) (c_Pa_signAt hq (by omega)) (kp ?_) xn
      refine e_Pa_order_18  ?_
      rw [← hst]
      exact key w
theorem c_Pa_order (hp : pa h a p) (hq : pa h b q) (sp : sm p) (sq : sm q) {m : Nat} (hm : m < 2 ^ 31) : tv_Ct G mm_Pa_order [.ref a, .ref b, .int (nI m)] h 0 0 (rv (.int (ov p (q.take m))) (fun h' => h' = h)) := by
  refine tv_ct rfl (by decide +kernel) (by simp [Value.category]) (Nat.le_of_ble_eq_true rfl) ?_
  refine e_Pa_order_0  ?_
  refine e_Pa_order_1 (Nat.le_of_ble_eq_true rfl) ?_
  exact l_Pa_order hp hq sp sq hm 19 0 rfl none
theorem c_Pa_isAt (hp : pa h a p) (hq : pa h b q) (sp : sm p) (sq : sm q) : tv_Ct G mm_Pa_isAt [.ref a, .ref b] h 0 0 (rv (.int (if p = q then 1 else 0)) (fun h' => h' = h)) := by
  have hl := hp.len
  have hlq := hq.len
  obtain ⟨bs, h1, -⟩ := id hp
  obtain ⟨cs, g1, -⟩ := id hq
  refine tv_ct rfl (by decide +kernel) (by simp [Value.category]) (Nat.le_of_ble_eq_true rfl) ?_
  refine e_Pa_isAt_0 rfl ?_
  refine e_Pa_isAt_1 h1 rfl ?_
  refine e_Pa_isAt_4 rfl ?_
  refine e_Pa_isAt_5 g1 rfl ?_
  refine e_Pa_isAt_8 (fun c1 => ?_) (fun c1 => ?_)
  · refine e_Pa_isAt_27  ?_
    exact e_Pa_isAt_28 (Or.inl rfl) ⟨by rw [if_neg (by rintro rfl; exact c1 rfl)], rfl⟩
  · have hle : p.length = q.length := (nI_eq (by omega) (by omega)).mp c1
    refine e_Pa_isAt_11 rfl ?_
    refine e_Pa_isAt_12 rfl ?_
    refine e_Pa_isAt_13 rfl ?_
    refine e_Pa_isAt_14 h1 rfl ?_
    refine e_Pa_isAt_17 h1 (by decide) (c_Pa_order hp hq sp sq (m := p.length) (by omega)) (kp ?_) xn
    rw [hle, List.take_length]
    refine e_Pa_isAt_20 (fun c2 => ?_) (fun c2 => ?_)
    · refine e_Pa_isAt_27  ?_
      exact e_Pa_isAt_28 (Or.inl rfl) ⟨by rw [if_neg (fun e => c2 ((ov_eq sp sq).mpr e))], rfl⟩
    · refine e_Pa_isAt_23  ?_
      refine e_Pa_isAt_24  ?_
      exact e_Pa_isAt_28 (Or.inr rfl) ⟨by rw [if_pos ((ov_eq sp sq).mp c2)], rfl⟩
/-- p is below q -/
abbrev bw (p q : List Nat) : Prop := p[q.length]? = some 47 ∧ p.take q.length = q
theorem c_Pa_isBelow (hp : pa h a p) (hq : pa h b q) (sp : sm p) (sq : sm q) : tv_Ct G mm_Pa_isBelow [.ref a, .ref b] h 0 0 (rv (.int (if bw p q then 1 else 0)) (fun h' => h' = h)) := by
  have hl := hp.len
  have hlq := hq.len
  obtain ⟨bs, h1, -, -, -, -, h6⟩ := id hp
  obtain ⟨cs, g1, -⟩ := id hq
  refine tv_ct rfl (by decide +kernel) (by simp [Value.category]) (Nat.le_of_ble_eq_true rfl) ?_
  refine e_Pa_isBelow_0 rfl ?_
  refine e_Pa_isBelow_1 rfl ?_
  refine e_Pa_isBelow_2 g1 rfl ?_
  refine e_Pa_isBelow_5 h1 (by decide) (c_Pa_signAt hp (by omega)) (kp ?_) xn
  refine e_Pa_isBelow_8  ?_
  refine e_Pa_isBelow_10 (fun c1 => ?_) (fun c1 => ?_)
  · refine e_Pa_isBelow_29  ?_
    exact e_Pa_isBelow_30 (Or.inl rfl) ⟨by rw [if_neg (fun e => c1 ((sg_47 h6 e.1).mpr rfl))], rfl⟩
  · have hd : p[q.length]? = some 47 := by
      rcases sg_sm sp q.length with ⟨d, e1, e2, e3, -⟩ | ⟨e1, e2, -⟩
      · rw [e1, (sg_47 h6 e1).mp c1]
      · rw [e2] at c1; exact absurd c1 (by decide)
    refine e_Pa_isBelow_13 rfl ?_
    refine e_Pa_isBelow_14 rfl ?_
    refine e_Pa_isBelow_15 rfl ?_
    refine e_Pa_isBelow_16 g1 rfl ?_
    refine e_Pa_isBelow_19 g1 (by decide) (c_Pa_order hq hp sq sp (m := q.length) (by omega)) (kp ?_) xn
    refine e_Pa_isBelow_22 (fun c2 => ?_) (fun c2 => ?_)
    · refine e_Pa_isBelow_29  ?_
      exact e_Pa_isBelow_30 (Or.inl rfl) ⟨by rw [if_neg (fun e => c2 ((ov_eq sq sp.take).mpr e.2.symm))], rfl⟩
    · refine e_Pa_isBelow_25  ?_
      refine e_Pa_isBelow_26  ?_
      exact e_Pa_isBelow_30 (Or.inr rfl) ⟨by rw [if_pos ⟨hd, ((ov_eq sq sp.take).mp c2).symm⟩], rfl⟩
end
