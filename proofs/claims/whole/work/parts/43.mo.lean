/-! the reference: its arrays, paths in them -/
abbrev mM : Type := Nat → Nat → Int32
def msz (a : Nat) : Nat := if a = 0 then 2480 else if a = 1 then 124 else if a = 2 then 3 else if a = 3 then 120 else if a = 4 then 120 else if a = 5 then 1920 else 2480
def mar (M : mM) (a : Nat) : List Value := (List.range (msz a)).map (fun k => Value.int (M a k))
theorem msz_le (a : Nat) : msz a ≤ 2480 := by
  unfold msz
  repeat' split
  all_goals omega
theorem md {M : mM} {a i : Nat} (hi : i < msz a) : (mar M a)[i]? = some (.int (M a i)) := by
  unfold mar
  rw [List.getElem?_map, List.getElem?_range hi]
  rfl
theorem ml {M : mM} {a i : Nat} (hi : i < msz a) : i < (mar M a).length := by
  unfold mar
  rw [List.length_map, List.length_range]
  exact hi
theorem mlen {M : mM} {a : Nat} : (mar M a).length < 2 ^ 31 := by
  unfold mar
  rw [List.length_map, List.length_range]
  have := msz_le a
  omega
def mu (M : mM) (a i : Nat) (v : Int32) : mM := fun b j => if b = a ∧ j = i then v else M b j
theorem mu_at {M : mM} {a i : Nat} {v : Int32} : mu M a i v a i = v := if_pos ⟨rfl, rfl⟩
theorem mu_ne {M : mM} {a i b j : Nat} {v : Int32} (h : ¬ (b = a ∧ j = i)) : mu M a i v b j = M b j := if_neg h
theorem mar_mu {M : mM} {a i : Nat} {v : Int32} : mar (mu M a i v) a = (mar M a).set i (.int v) := by
  apply List.ext_getElem?
  intro k
  rw [List.getElem?_set]
  unfold mar
  rw [List.getElem?_map, List.getElem?_map, List.length_map, List.length_range]
  by_cases hk : k < msz a
  · rw [List.getElem?_range hk]
    by_cases hi : i = k
    · subst hi
      rw [if_pos rfl, if_pos hk]
      show some (Value.int (mu M a i v a i)) = _
      rw [mu_at]
    · rw [if_neg hi]
      show some (Value.int (mu M a i v a k)) = _
      rw [mu_ne (fun q => hi q.2.symm)]
      rfl
  · rw [List.getElem?_eq_none (by rw [List.length_range]; omega)]
    by_cases hi : i = k
    · subst hi
      rw [if_pos rfl, if_neg hk]
      rfl
    · rw [if_neg hi]
      rfl
theorem mar_ne {M : mM} {a b i : Nat} {v : Int32} (h : b ≠ a) : mar (mu M a i v) b = mar M b := by
  unfold mar
  apply List.map_congr_left
  intro k _
  rw [mu_ne (fun q => h q.1)]
/-- the reference at 497: what it has thrown, how much of the layer is used, its arrays -/
def mh (h : tv_H) (th us : Int32) (M : mM) : Prop := h[497]? = some (5, [.int th, .ref 498, .ref 499, .ref 500, .ref 501, .ref 502, .ref 503, .ref 504, .int us]) ∧ ∀ a, a < 7 → h[498 + a]? = some (101, mar M a)
abbrev mS : Nat → Prop := fun b => 497 ≤ b ∧ b < 505
section
variable {h h' : tv_H} {th us v : Int32} {M : mM} {i : Nat}
theorem mh.a0 (hm : mh h th us M) : h[498]? = some (101, mar M 0) := hm.2 0 (by decide)
theorem mh.a1 (hm : mh h th us M) : h[499]? = some (101, mar M 1) := hm.2 1 (by decide)
theorem mh.a2 (hm : mh h th us M) : h[500]? = some (101, mar M 2) := hm.2 2 (by decide)
theorem mh.a3 (hm : mh h th us M) : h[501]? = some (101, mar M 3) := hm.2 3 (by decide)
theorem mh.a4 (hm : mh h th us M) : h[502]? = some (101, mar M 4) := hm.2 4 (by decide)
theorem mh.a5 (hm : mh h th us M) : h[503]? = some (101, mar M 5) := hm.2 5 (by decide)
theorem mh.a6 (hm : mh h th us M) : h[504]? = some (101, mar M 6) := hm.2 6 (by decide)
theorem mh.up (hm : mh h th us M) (a : Nat) (ha : a < 7) : mh (h.set (498 + a) (101, (mar M a).set i (.int v))) th us (mu M a i v) := by
  refine ⟨gs_ne hm.1 (by omega), fun b hb => ?_⟩
  by_cases e : b = a
  · subst e
    rw [gs_eq (hm.2 b hb), mar_mu]
  · rw [gs_ne (hm.2 b hb) (by omega), mar_ne e]
theorem mh.s0 (hm : mh h th us M) : mh (h.set 498 (101, (mar M 0).set i (.int v))) th us (mu M 0 i v) := hm.up 0 (by decide)
theorem mh.s1 (hm : mh h th us M) : mh (h.set 499 (101, (mar M 1).set i (.int v))) th us (mu M 1 i v) := hm.up 1 (by decide)
theorem mh.s2 (hm : mh h th us M) : mh (h.set 500 (101, (mar M 2).set i (.int v))) th us (mu M 2 i v) := hm.up 2 (by decide)
theorem mh.s3 (hm : mh h th us M) : mh (h.set 501 (101, (mar M 3).set i (.int v))) th us (mu M 3 i v) := hm.up 3 (by decide)
theorem mh.s4 (hm : mh h th us M) : mh (h.set 502 (101, (mar M 4).set i (.int v))) th us (mu M 4 i v) := hm.up 4 (by decide)
theorem mh.s5 (hm : mh h th us M) : mh (h.set 503 (101, (mar M 5).set i (.int v))) th us (mu M 5 i v) := hm.up 5 (by decide)
theorem mh.s6 (hm : mh h th us M) : mh (h.set 504 (101, (mar M 6).set i (.int v))) th us (mu M 6 i v) := hm.up 6 (by decide)
theorem mh.obj (hm : mh h th us M) (th' us' : Int32) : mh (h.set 497 (5, [.int th', .ref 498, .ref 499, .ref 500, .ref 501, .ref 502, .ref 503, .ref 504, .int us'])) th' us' M := ⟨gs_eq hm.1, fun b hb => gs_ne (hm.2 b hb) (by omega)⟩
theorem mh.kept (hm : mh h th us M) {S : Nat → Prop} (hf : fr S h h') (hs : ∀ b, mS b → ¬ S b) : mh h' th us M := ⟨(hf.2 _ (hs _ ⟨by omega, by omega⟩)).trans hm.1, fun b hb => (hf.2 _ (hs _ ⟨by omega, by omega⟩)).trans (hm.2 b hb)⟩
end
theorem ix20 (r k : Nat) : 20 * nI r + nI k = nI (20 * r + k) := by rw [← nI_add, ← pk_mul]; rfl
theorem ix40 (r k : Nat) : 40 * nI r + nI k = nI (40 * r + k) := by rw [← nI_add, ← pk_mul]; rfl
theorem ix16 (r k : Nat) : 16 * nI r + nI k = nI (16 * r + k) := by rw [← nI_add, ← pk_mul]; rfl
theorem m40 (r : Nat) : 40 * nI r = nI (40 * r) := by rw [← pk_mul]; rfl
/-- the row r has the path p -/
def mp (M : mM) (r : Nat) (p : List Nat) : Prop := M 1 r = nI p.length ∧ p.length ≤ 20 ∧ ∀ k c, p[k]? = some c → M 0 (20 * r + k) = nI c
theorem mp.k {M M' : mM} {r : Nat} {p : List Nat} (h : mp M r p) (h1 : M' 1 r = M 1 r) (h2 : ∀ k, k < 20 → M' 0 (20 * r + k) = M 0 (20 * r + k)) : mp M' r p := by
  refine ⟨h1.trans h.1, h.2.1, fun k c hk => (h2 k ?_).trans (h.2.2 k c hk)⟩
  have := (List.getElem?_eq_some_iff.mp hk).1
  have := h.2.1
  omega
/-- copyPath -/
def cpM (M : mM) (f t : Nat) : mM := fun b j => if b = 0 ∧ 20 * t ≤ j ∧ j < 20 * t + 20 then M 0 (20 * f + (j - 20 * t)) else if b = 1 ∧ j = t then M 1 f else M b j
theorem cp_at {M : mM} {f t : Nat} {p : List Nat} (h : mp M f p) : mp (cpM M f t) t p := by
  refine ⟨?_, h.2.1, fun k c hk => ?_⟩
  · unfold cpM
    rw [if_neg (by omega), if_pos ⟨rfl, rfl⟩]
    exact h.1
  · have := (List.getElem?_eq_some_iff.mp hk).1
    have := h.2.1
    unfold cpM
    rw [if_pos ⟨rfl, by omega, by omega⟩, show 20 * f + (20 * t + k - 20 * t) = 20 * f + k by omega]
    exact h.2.2 k c hk
theorem cp_ne {M : mM} {f t r : Nat} {p : List Nat} (h : mp M r p) (hr : r ≠ t) : mp (cpM M f t) r p := by
  refine h.k ?_ (fun k hk => ?_)
  · unfold cpM
    rw [if_neg (by omega), if_neg (by omega)]
  · unfold cpM
    rw [if_neg (by omega), if_neg (by omega)]
theorem cp_o {M : mM} {f t b j : Nat} (hb : 2 ≤ b) : cpM M f t b j = M b j := by
  unfold cpM
  rw [if_neg (by omega), if_neg (by omega)]
/-- the order of the reference -/
def rv_ (L : Int32) : List Nat → List Nat → Int32
  | a :: p, b :: q => if a = b then rv_ L p q else nI a - nI b
  | _, _ => L
def rov (p q : List Nat) : Int32 := rv_ (nI p.length - nI q.length) p q
theorem rv_int : ∀ {p q : List Nat} {m : Nat}, sm p → sm q → m + p.length < 2 ^ 30 → m + q.length < 2 ^ 30 → ((rv_ (nI (m + p.length) - nI (m + q.length)) p q).toInt = 0 ↔ p = q) ∧ ((rv_ (nI (m + p.length) - nI (m + q.length)) p q).toInt < 0 ↔ p < q)
  | [], [], m, _, _, h1, h2 => by
    rw [rv_, pk_sub_toInt h1 h2]
    · exact ⟨⟨fun _ => rfl, fun _ => by omega⟩, ⟨fun h => by omega, fun h => absurd h (List.lt_irrefl _)⟩⟩
    · intro a p b q e; cases e
  | [], b :: q, m, _, _, h1, h2 => by
    rw [rv_, pk_sub_toInt h1 h2]
    · refine ⟨⟨fun h => ?_, fun h => by cases h⟩, ⟨fun _ => List.nil_lt_cons _ _, fun _ => ?_⟩⟩ <;> simp only [List.length_cons, List.length_nil] at * <;> omega
    · intro a p b q e; cases e
  | a :: p, [], m, _, _, h1, h2 => by
    rw [rv_, pk_sub_toInt h1 h2]
    · refine ⟨⟨fun h => ?_, fun h => by cases h⟩, ⟨fun h => ?_, fun h => absurd h (List.not_lt_nil _)⟩⟩ <;> simp only [List.length_cons, List.length_nil] at * <;> omega
    · intro a p b q _ e; cases e
  | a :: p, b :: q, m, hp, hq, h1, h2 => by
    have ih := rv_int (p := p) (q := q) (m := m + 1) hp.tail hq.tail (by simp only [List.length_cons] at h1; omega) (by simp only [List.length_cons] at h2; omega)
    have g1 := hp.head
    have g2 := hq.head
    rw [rv_]
    by_cases hab : a = b
    · subst hab
      rw [if_pos rfl, List.cons_lt_cons_iff]
      simp only [List.length_cons]
      rw [show m + (p.length + 1) = m + 1 + p.length by omega, show m + (q.length + 1) = m + 1 + q.length by omega]
      exact ⟨by rw [ih.1]; simp, by rw [ih.2]; simp⟩
    · rw [if_neg hab, pk_sub_toInt (by omega) (by omega), List.cons_lt_cons_iff]
      refine ⟨⟨fun h => by omega, fun h => absurd (List.cons.inj h).1 hab⟩, ⟨fun h => Or.inl (by omega), fun h => ?_⟩⟩
      rcases h with h | ⟨h, -⟩
      · omega
      · exact absurd h hab
theorem rov_eq {p q : List Nat} (hp : sm p) (hq : sm q) (h1 : p.length ≤ 20) (h2 : q.length ≤ 20) : rov p q = 0 ↔ p = q := by
  have := (rv_int (m := 0) hp hq (by omega) (by omega)).1
  rw [Nat.zero_add, Nat.zero_add] at this
  rw [← this]
  exact ⟨fun h => by unfold rov at h; rw [h]; rfl, fun h => Int32.toInt_inj.mp h⟩
theorem rov_lt {p q : List Nat} (hp : sm p) (hq : sm q) (h1 : p.length ≤ 20) (h2 : q.length ≤ 20) : rov p q < 0 ↔ p < q := by
  have := (rv_int (m := 0) hp hq (by omega) (by omega)).2
  rw [Nat.zero_add, Nat.zero_add] at this
  rw [← this, Int32.lt_iff_toInt_lt]
  rfl
section
variable {G : tv_G} {h h' : tv_H} {th us : Int32} {M : mM} {c z a b r t : Nat} {p q : List Nat}
theorem l_Mo_order (hm : mh h th us M) (ha : a < 124) (hb : b < 124) (hp : mp M a p) (hq : mp M b q) (sp : sm p) (sq : sm q) : ∀ j k, j + k = p.length → k ≤ q.length → rov p q = rv_ (nI p.length - nI q.length) (p.drop k) (q.drop k) → ∀ g, tv_Ev G mm_Mo_order 2 [some (.ref 497), some (.int (nI a)), some (.int (nI b)), some (.int (nI k)), g] [] h c z (rv (.int (rov p q)) (fun h' => h' = h)) := by
  have hp2 := hp.2.1
  have hq2 := hq.2.1
  have fin : (rov p q = nI p.length - nI q.length) → ∀ ls, ls = [some (.ref 497), some (.int (nI a)), some (.int (nI b)), ls.getD 3 none, ls.getD 4 none] → tv_Ev G mm_Mo_order 61 ls [] h c z (rv (.int (rov p q)) (fun h' => h' = h)) := by
    intro he ls hls
    rw [hls]
    refine e_Mo_order_61 rfl ?_
    refine e_Mo_order_62 hm.1 rfl ?_
    refine e_Mo_order_65 rfl ?_
    refine e_Mo_order_66 (a) hm.a1 rfl (md (a := 1) (show a < 124 by omega)) mlen ?_
    refine e_Mo_order_67 rfl ?_
    refine e_Mo_order_68 hm.1 rfl ?_
    refine e_Mo_order_71 rfl ?_
    refine e_Mo_order_72 (b) hm.a1 rfl (md (a := 1) (show b < 124 by omega)) mlen ?_
    refine e_Mo_order_73  ?_
    rw [hp.1, hq.1]
    exact e_Mo_order_74 ⟨by rw [he], rfl⟩
  intro j
  induction j with
  | zero =>
    intro k hk hkq he g
    have hk : k = p.length := by omega
    subst hk
    refine e_Mo_order_2 rfl ?_
    refine e_Mo_order_3 rfl ?_
    refine e_Mo_order_4 hm.1 rfl ?_
    refine e_Mo_order_7 rfl ?_
    refine e_Mo_order_8 (a) hm.a1 rfl (md (a := 1) (show a < 124 by omega)) mlen ?_
    rw [hp.1]
    refine e_Mo_order_9 (fun _ => ?_) (fun c1 => absurd (nI_le (Nat.le_refl _) (by omega)) c1)
    refine fin ?_ _ rfl
    rw [he, List.drop_length]
    rw [rv_]
    intro a p b q e
    cases e
  | succ j ih =>
    intro k hk hkq he g
    have hpk : p[k]? = some p[k] := List.getElem?_eq_getElem (by omega)
    refine e_Mo_order_2 rfl ?_
    refine e_Mo_order_3 rfl ?_
    refine e_Mo_order_4 hm.1 rfl ?_
    refine e_Mo_order_7 rfl ?_
    refine e_Mo_order_8 (a) hm.a1 rfl (md (a := 1) (show a < 124 by omega)) mlen ?_
    rw [hp.1]
    refine e_Mo_order_9 (fun c1 => absurd c1 (nI_ge (by omega) (by omega))) (fun _ => ?_)
    refine e_Mo_order_12 rfl ?_
    refine e_Mo_order_13 rfl ?_
    refine e_Mo_order_14 hm.1 rfl ?_
    refine e_Mo_order_17 rfl ?_
    refine e_Mo_order_18 (b) hm.a1 rfl (md (a := 1) (show b < 124 by omega)) mlen ?_
    rw [hq.1]
    rcases Nat.lt_or_ge k q.length with g1 | g1
    · have hqk : q[k]? = some q[k] := List.getElem?_eq_getElem g1
      refine e_Mo_order_19 (fun c1 => absurd c1 (nI_ge (by omega) (by omega))) (fun _ => ?_)
      refine e_Mo_order_22 rfl ?_
      refine e_Mo_order_23 hm.1 rfl ?_
      refine e_Mo_order_26  ?_
      refine e_Mo_order_28 rfl ?_
      refine e_Mo_order_29  ?_
      refine e_Mo_order_30 rfl ?_
      refine e_Mo_order_31  ?_
      refine e_Mo_order_32 (20 * a + k) hm.a0 (ix20 _ _) (md (a := 0) (show 20 * a + k < 2480 by omega)) mlen ?_
      refine e_Mo_order_33 rfl ?_
      refine e_Mo_order_34 hm.1 rfl ?_
      refine e_Mo_order_37  ?_
      refine e_Mo_order_39 rfl ?_
      refine e_Mo_order_40  ?_
      refine e_Mo_order_41 rfl ?_
      refine e_Mo_order_42  ?_
      refine e_Mo_order_43 (20 * b + k) hm.a0 (ix20 _ _) (md (a := 0) (show 20 * b + k < 2480 by omega)) mlen ?_
      rw [hp.2.2 k _ hpk, hq.2.2 k _ hqk]
      rw [drop_g hpk, drop_g hqk, rv_] at he
      refine e_Mo_order_44  ?_
      refine e_Mo_order_45 (Nat.le_of_ble_eq_true rfl) ?_
      refine e_Mo_order_47 rfl ?_
      by_cases e : p[k] = q[k]
      · rw [if_pos e] at he
        rw [e]
        refine e_Mo_order_49 (fun _ => ?_) (fun c1 => absurd (by rw [pk_sub (Nat.le_refl _), Nat.sub_self]; rfl) c1)
        refine e_Mo_order_55 rfl ?_
        refine e_Mo_order_58  ?_
        have := ih (k + 1) (by omega) (by omega) he (some (.int (nI q[k] - nI q[k])))
        rw [nI_succ] at this
        exact this
      · rw [if_neg e] at he
        refine e_Mo_order_49 (fun c1 => ?_) (fun _ => ?_)
        · have h1 := sp _ (List.getElem_mem (show k < p.length by omega))
          have h2 := sq _ (List.getElem_mem g1)
          have h3 := pk_sub_toInt (a := p[k]) (b := q[k]) (by omega) (by omega)
          rw [c1, Int32.toInt_zero] at h3
          exact absurd (show p[k] = q[k] by omega) e
        · refine e_Mo_order_52 rfl ?_
          exact e_Mo_order_54 ⟨by rw [he], rfl⟩
    · refine e_Mo_order_19 (fun _ => ?_) (fun c1 => absurd (nI_le g1 (by omega)) c1)
      refine fin ?_ _ rfl
      rw [he, List.drop_eq_nil_of_le g1, drop_g hpk, rv_]
      intro a p b q _ e
      cases e
theorem c_Mo_order (hm : mh h th us M) (ha : a < 124) (hb : b < 124) (hp : mp M a p) (hq : mp M b q) (sp : sm p) (sq : sm q) : tv_Ct G mm_Mo_order [.ref 497, .int (nI a), .int (nI b)] h 0 0 (rv (.int (rov p q)) (fun h' => h' = h)) := by
  refine tv_ct rfl (by decide +kernel) (by simp [Value.category]) (Nat.le_of_ble_eq_true rfl) ?_
  refine e_Mo_order_0  ?_
  refine e_Mo_order_1 (Nat.le_of_ble_eq_true rfl) ?_
  exact l_Mo_order hm ha hb hp hq sp sq p.length 0 rfl (by omega) rfl none
theorem l_Mo_isBelow (hm : mh h th us M) (ha : a < 124) (hb : b < 124) (hp : mp M a p) (hq : mp M b q) (sp : sm p) (sq : sm q) (hlt : p[q.length]? = some 47) : ∀ j k, j + k = q.length → p.take k = q.take k → tv_Ev G mm_Mo_isBelow 45 [some (.ref 497), some (.int (nI a)), some (.int (nI b)), some (.int 1), some (.int (nI k))] [] h c z (rv (.int (if bw p q then 1 else 0)) (fun h' => h' = h)) := by
  have hp2 := hp.2.1
  have hq2 := hq.2.1
  have hl := (List.getElem?_eq_some_iff.mp hlt).1
  intro j
  induction j with
  | zero =>
    intro k hk ht
    have hk : k = q.length := by omega
    subst hk
    rw [List.take_length] at ht
    refine e_Mo_isBelow_45 rfl ?_
    refine e_Mo_isBelow_47 rfl ?_
    refine e_Mo_isBelow_48 hm.1 rfl ?_
    refine e_Mo_isBelow_51 rfl ?_
    refine e_Mo_isBelow_52 (b) hm.a1 rfl (md (a := 1) (show b < 124 by omega)) mlen ?_
    rw [hq.1]
    refine e_Mo_isBelow_53 (fun _ => ?_) (fun c1 => absurd (nI_le (Nat.le_refl _) (by omega)) c1)
    refine e_Mo_isBelow_99 rfl ?_
    exact e_Mo_isBelow_100 (Or.inr rfl) ⟨by rw [if_pos ⟨hlt, ht⟩], rfl⟩
  | succ j ih =>
    intro k hk ht
    have hpk : p[k]? = some p[k] := List.getElem?_eq_getElem (by omega)
    have hqk : q[k]? = some q[k] := List.getElem?_eq_getElem (by omega)
    have b1 := sp _ (List.getElem_mem (show k < p.length by omega))
    have b2 := sq _ (List.getElem_mem (show k < q.length by omega))
    refine e_Mo_isBelow_45 rfl ?_
    refine e_Mo_isBelow_47 rfl ?_
    refine e_Mo_isBelow_48 hm.1 rfl ?_
    refine e_Mo_isBelow_51 rfl ?_
    refine e_Mo_isBelow_52 (b) hm.a1 rfl (md (a := 1) (show b < 124 by omega)) mlen ?_
    rw [hq.1]
    refine e_Mo_isBelow_53 (fun c1 => absurd c1 (nI_ge (by omega) (by omega))) (fun _ => ?_)
    refine e_Mo_isBelow_56 rfl ?_
    refine e_Mo_isBelow_57 (fun c1 => absurd c1 (by decide)) (fun _ => ?_)
    refine e_Mo_isBelow_60 rfl ?_
    refine e_Mo_isBelow_61 hm.1 rfl ?_
    refine e_Mo_isBelow_64  ?_
    refine e_Mo_isBelow_66 rfl ?_
    refine e_Mo_isBelow_67  ?_
    refine e_Mo_isBelow_68 rfl ?_
    refine e_Mo_isBelow_70  ?_
    refine e_Mo_isBelow_71 (20 * a + k) hm.a0 (ix20 _ _) (md (a := 0) (show 20 * a + k < 2480 by omega)) mlen ?_
    refine e_Mo_isBelow_72 rfl ?_
    refine e_Mo_isBelow_73 hm.1 rfl ?_
    refine e_Mo_isBelow_76  ?_
    refine e_Mo_isBelow_78 rfl ?_
    refine e_Mo_isBelow_79  ?_
    refine e_Mo_isBelow_80 rfl ?_
    refine e_Mo_isBelow_82  ?_
    refine e_Mo_isBelow_83 (20 * b + k) hm.a0 (ix20 _ _) (md (a := 0) (show 20 * b + k < 2480 by omega)) mlen ?_
    rw [hp.2.2 k _ hpk, hq.2.2 k _ hqk]
    refine e_Mo_isBelow_84 (fun c1 => ?_) (fun c1 => ?_)
    · refine e_Mo_isBelow_91  ?_
      refine e_Mo_isBelow_92 (Nat.le_of_ble_eq_true rfl) ?_
      refine e_Mo_isBelow_93 rfl ?_
      refine e_Mo_isBelow_96  ?_
      refine e_Mo_isBelow_45 rfl ?_
      refine e_Mo_isBelow_47 rfl ?_
      refine e_Mo_isBelow_48 hm.1 rfl ?_
      refine e_Mo_isBelow_51 rfl ?_
      refine e_Mo_isBelow_52 (b) hm.a1 rfl (md (a := 1) (show b < 124 by omega)) mlen ?_
      rw [hq.1]
      have hno : ¬ bw p q := by
        rintro ⟨-, w⟩
        have h9 : (p.take q.length)[k]? = q[k]? := by rw [w]
        rw [List.getElem?_take_of_lt (by omega), hpk, hqk] at h9
        exact c1 (by rw [Option.some.inj h9])
      have e9 : tv_Ev G mm_Mo_isBelow 99 [some (.ref 497), some (.int (nI a)), some (.int (nI b)), some (.int 0), some (.int (nI k + 1))] [] h c z (rv (.int (if bw p q then 1 else 0)) (fun h' => h' = h)) := by
        refine e_Mo_isBelow_99 rfl ?_
        exact e_Mo_isBelow_100 (Or.inl rfl) ⟨by rw [if_neg hno], rfl⟩
      refine e_Mo_isBelow_53 (fun _ => e9) (fun _ => ?_)
      refine e_Mo_isBelow_56 rfl ?_
      refine e_Mo_isBelow_57 (fun _ => e9) (fun c2 => absurd rfl c2)
    · have e1 : p[k] = q[k] := (nI_eq (by omega) (by omega)).mp c1
      refine e_Mo_isBelow_87  ?_
      refine e_Mo_isBelow_88  ?_
      refine e_Mo_isBelow_92 (Nat.le_of_ble_eq_true rfl) ?_
      refine e_Mo_isBelow_93 rfl ?_
      refine e_Mo_isBelow_96  ?_
      have := ih (k + 1) (by omega) (by rw [take_g hpk, take_g hqk, ht, e1])
      rw [nI_succ] at this
      exact this
theorem c_Mo_isBelow (hm : mh h th us M) (ha : a < 124) (hb : b < 124) (hp : mp M a p) (hq : mp M b q) (sp : sm p) (sq : sm q) : tv_Ct G mm_Mo_isBelow [.ref 497, .int (nI a), .int (nI b)] h 0 0 (rv (.int (if bw p q then 1 else 0)) (fun h' => h' = h)) := by
  have hp2 := hp.2.1
  have hq2 := hq.2.1
  have no : p[q.length]? ≠ some 47 → tv_Ev G mm_Mo_isBelow 40 [some (.ref 497), some (.int (nI a)), some (.int (nI b)), none, none] [] h 0 0 (rv (.int (if bw p q then 1 else 0)) (fun h' => h' = h)) := by
    intro hn
    have hno : ¬ bw p q := fun w => hn w.1
    have e9 : tv_Ev G mm_Mo_isBelow 99 [some (.ref 497), some (.int (nI a)), some (.int (nI b)), some (.int 0), some (.int 0)] [] h 0 0 (rv (.int (if bw p q then 1 else 0)) (fun h' => h' = h)) := by
      refine e_Mo_isBelow_99 rfl ?_
      exact e_Mo_isBelow_100 (Or.inl rfl) ⟨by rw [if_neg hno], rfl⟩
    refine e_Mo_isBelow_40  ?_
    refine e_Mo_isBelow_41 (Nat.le_of_ble_eq_true rfl) ?_
    refine e_Mo_isBelow_42  ?_
    refine e_Mo_isBelow_43 (Nat.le_of_ble_eq_true rfl) ?_
    refine e_Mo_isBelow_45 rfl ?_
    refine e_Mo_isBelow_47 rfl ?_
    refine e_Mo_isBelow_48 hm.1 rfl ?_
    refine e_Mo_isBelow_51 rfl ?_
    refine e_Mo_isBelow_52 (b) hm.a1 rfl (md (a := 1) (show b < 124 by omega)) mlen ?_
    refine e_Mo_isBelow_53 (fun _ => e9) (fun _ => ?_)
    refine e_Mo_isBelow_56 rfl ?_
    refine e_Mo_isBelow_57 (fun _ => e9) (fun c2 => absurd rfl c2)
  refine tv_ct rfl (by decide +kernel) (by simp [Value.category]) (Nat.le_of_ble_eq_true rfl) ?_
  refine e_Mo_isBelow_0 rfl ?_
  refine e_Mo_isBelow_1 hm.1 rfl ?_
  refine e_Mo_isBelow_4 rfl ?_
  refine e_Mo_isBelow_5 (a) hm.a1 rfl (md (a := 1) (show a < 124 by omega)) mlen ?_
  refine e_Mo_isBelow_6 rfl ?_
  refine e_Mo_isBelow_7 hm.1 rfl ?_
  refine e_Mo_isBelow_10 rfl ?_
  refine e_Mo_isBelow_11 (b) hm.a1 rfl (md (a := 1) (show b < 124 by omega)) mlen ?_
  rw [hp.1, hq.1]
  refine e_Mo_isBelow_12 (fun c1 => ?_) (fun c1 => ?_)
  · have c1 := (nI_leI (by omega) (by omega)).mp c1
    exact no (by rw [List.getElem?_eq_none c1]; intro e; cases e)
  · have c1 : q.length < p.length := by
      rcases Nat.lt_or_ge q.length p.length with w | w
      · exact w
      · exact absurd (nI_le w (by omega)) c1
    have hpk : p[q.length]? = some p[q.length] := List.getElem?_eq_getElem c1
    have b1 := sp _ (List.getElem_mem c1)
    refine e_Mo_isBelow_15 rfl ?_
    refine e_Mo_isBelow_16 hm.1 rfl ?_
    refine e_Mo_isBelow_19  ?_
    refine e_Mo_isBelow_21 rfl ?_
    refine e_Mo_isBelow_22  ?_
    refine e_Mo_isBelow_23 rfl ?_
    refine e_Mo_isBelow_24 hm.1 rfl ?_
    refine e_Mo_isBelow_27 rfl ?_
    refine e_Mo_isBelow_28 (b) hm.a1 rfl (md (a := 1) (show b < 124 by omega)) mlen ?_
    refine e_Mo_isBelow_29  ?_
    rw [hq.1]
    refine e_Mo_isBelow_30 (20 * a + q.length) hm.a0 (ix20 _ _) (md (a := 0) (show 20 * a + q.length < 2480 by omega)) mlen ?_
    refine e_Mo_isBelow_31  ?_
    rw [hp.2.2 _ _ hpk]
    refine e_Mo_isBelow_33 (fun c2 => ?_) (fun c2 => ?_)
    · exact no (by rw [hpk]; intro e; exact c2 (by rw [Option.some.inj e]; rfl))
    · have e1 : p[q.length] = 47 := (nI_eq (b := 47) (by omega) (by decide)).mp c2
      refine e_Mo_isBelow_36  ?_
      refine e_Mo_isBelow_37  ?_
      refine e_Mo_isBelow_41 (Nat.le_of_ble_eq_true rfl) ?_
      refine e_Mo_isBelow_42  ?_
      refine e_Mo_isBelow_43 (Nat.le_of_ble_eq_true rfl) ?_
      exact l_Mo_isBelow hm ha hb hp hq sp sq (by rw [hpk, e1]) q.length 0 rfl rfl
theorem l_Mo_names (hm : mh h th us M) (ha : a < 124) (hp : mp M a p) (sp : sm p) : ∀ j k, j + k = p.length → tv_Ev G mm_Mo_names 4 [some (.ref 497), some (.int (nI a)), some (.int (nI ((p.take k).count 47 + 1))), some (.int (nI k))] [] h c z (rv (.int (nI (p.count 47 + 1))) (fun h' => h' = h)) := by
  have hp2 := hp.2.1
  intro j
  induction j with
  | zero =>
    intro k hk
    have hk : k = p.length := by omega
    subst hk
    refine e_Mo_names_4 rfl ?_
    refine e_Mo_names_5 rfl ?_
    refine e_Mo_names_6 hm.1 rfl ?_
    refine e_Mo_names_9 rfl ?_
    refine e_Mo_names_10 (a) hm.a1 rfl (md (a := 1) (show a < 124 by omega)) mlen ?_
    rw [hp.1]
    refine e_Mo_names_11 (fun _ => ?_) (fun c1 => absurd (nI_le (Nat.le_refl _) (by omega)) c1)
    refine e_Mo_names_44 rfl ?_
    exact e_Mo_names_45 ⟨by rw [List.take_length], rfl⟩
  | succ j ih =>
    intro k hk
    have hpk : p[k]? = some p[k] := List.getElem?_eq_getElem (by omega)
    have b1 := sp _ (List.getElem_mem (show k < p.length by omega))
    have hi := ih (k + 1) (by omega)
    rw [take_g hpk, List.count_append, nI_succ k] at hi
    refine e_Mo_names_4 rfl ?_
    refine e_Mo_names_5 rfl ?_
    refine e_Mo_names_6 hm.1 rfl ?_
    refine e_Mo_names_9 rfl ?_
    refine e_Mo_names_10 (a) hm.a1 rfl (md (a := 1) (show a < 124 by omega)) mlen ?_
    rw [hp.1]
    refine e_Mo_names_11 (fun c1 => absurd c1 (nI_ge (by omega) (by omega))) (fun _ => ?_)
    refine e_Mo_names_14 rfl ?_
    refine e_Mo_names_15 rfl ?_
    refine e_Mo_names_16 hm.1 rfl ?_
    refine e_Mo_names_19  ?_
    refine e_Mo_names_21 rfl ?_
    refine e_Mo_names_22  ?_
    refine e_Mo_names_23 rfl ?_
    refine e_Mo_names_24  ?_
    refine e_Mo_names_25 (20 * a + k) hm.a0 (ix20 _ _) (md (a := 0) (show 20 * a + k < 2480 by omega)) mlen ?_
    refine e_Mo_names_26  ?_
    rw [hp.2.2 k _ hpk]
    refine e_Mo_names_28 (fun c1 => ?_) (fun c1 => ?_)
    · have e1 : ¬ p[k] = 47 := fun e => c1 (by rw [e]; rfl)
      rw [List.count_singleton, if_neg (by simpa using e1), Nat.add_zero] at hi
      refine e_Mo_names_35  ?_
      refine e_Mo_names_36  ?_
      refine e_Mo_names_37 (Nat.le_of_ble_eq_true rfl) ?_
      refine e_Mo_names_38 rfl ?_
      refine e_Mo_names_41  ?_
      rw [show nI ((p.take k).count 47 + 1) + 0 = nI ((p.take k).count 47 + 1) from Int32.add_zero _]
      exact hi
    · have e1 : p[k] = 47 := (nI_eq (b := 47) (by omega) (by decide)).mp c1
      rw [List.count_singleton, if_pos (by simpa using e1)] at hi
      refine e_Mo_names_31  ?_
      refine e_Mo_names_32  ?_
      refine e_Mo_names_36  ?_
      refine e_Mo_names_37 (Nat.le_of_ble_eq_true rfl) ?_
      refine e_Mo_names_38 rfl ?_
      refine e_Mo_names_41  ?_
      rw [nI_1]
      exact hi
theorem c_Mo_names (hm : mh h th us M) (ha : a < 124) (hp : mp M a p) (sp : sm p) : tv_Ct G mm_Mo_names [.ref 497, .int (nI a)] h 0 0 (rv (.int (nI (p.count 47 + 1))) (fun h' => h' = h)) := by
  refine tv_ct rfl (by decide +kernel) (by simp [Value.category]) (Nat.le_of_ble_eq_true rfl) ?_
  refine e_Mo_names_0  ?_
  refine e_Mo_names_1 (Nat.le_of_ble_eq_true rfl) ?_
  refine e_Mo_names_2  ?_
  refine e_Mo_names_3 (Nat.le_of_ble_eq_true rfl) ?_
  exact l_Mo_names hm ha hp sp p.length 0 rfl
def cpK (M : mM) (f t k : Nat) : mM := fun b j => if b = 0 ∧ 20 * t ≤ j ∧ j < 20 * t + k then M 0 (20 * f + (j - 20 * t)) else M b j
theorem cpK_s (M : mM) (f t k : Nat) (hk : k < 20) : mu (cpK M f t k) 0 (20 * t + k) (cpK M f t k 0 (20 * f + k)) = cpK M f t (k + 1) := by
  have e0 : cpK M f t k 0 (20 * f + k) = M 0 (20 * f + k) := by
    unfold cpK
    by_cases e : 0 = 0 ∧ 20 * t ≤ 20 * f + k ∧ 20 * f + k < 20 * t + k
    · exfalso
      omega
    · rw [if_neg e]
  rw [e0]
  funext b j
  by_cases e : b = 0 ∧ j = 20 * t + k
  · obtain ⟨rfl, rfl⟩ := e
    rw [mu_at]
    unfold cpK
    rw [if_pos ⟨rfl, by omega, by omega⟩, show 20 * f + (20 * t + k - 20 * t) = 20 * f + k by omega]
  · rw [mu_ne e]
    unfold cpK
    by_cases e2 : b = 0 ∧ 20 * t ≤ j ∧ j < 20 * t + k
    · rw [if_pos e2, if_pos ⟨e2.1, e2.2.1, by omega⟩]
    · rw [if_neg e2, if_neg (by omega)]
theorem l_Mo_copyPath (ha : a < 124) (hb : b < 124) : ∀ j k, j + k = 20 → ∀ hc, mh hc th us (cpK M a b k) → fr mS h hc → tv_Ev G mm_Mo_copyPath 2 [some (.ref 497), some (.int (nI a)), some (.int (nI b)), some (.int (nI k))] [] hc c z (rn (fun h' => mh h' th us (cpM M a b) ∧ fr mS h h')) := by
  intro j
  induction j with
  | zero =>
    intro k hk hc hm hf
    have hk : k = 20 := by omega
    subst hk
    refine e_Mo_copyPath_2 rfl ?_
    refine e_Mo_copyPath_3  ?_
    refine e_Mo_copyPath_5 (fun _ => ?_) (fun c1 => absurd (by decide) c1)
    refine e_Mo_copyPath_36 rfl ?_
    refine e_Mo_copyPath_37 hm.1 rfl ?_
    refine e_Mo_copyPath_40 rfl ?_
    refine e_Mo_copyPath_41 rfl ?_
    refine e_Mo_copyPath_42 hm.1 rfl ?_
    refine e_Mo_copyPath_45 rfl ?_
    refine e_Mo_copyPath_46 (a) hm.a1 rfl (md (a := 1) (show a < 124 by omega)) mlen ?_
    refine e_Mo_copyPath_47 (b) hm.a1 rfl (ml (a := 1) (show b < 124 by omega)) mlen ?_
    have e1 : cpM M a b = mu (cpK M a b 20) 1 b (cpK M a b 20 1 a) := by
      funext d j
      by_cases e : d = 1 ∧ j = b
      · obtain ⟨rfl, rfl⟩ := e
        rw [mu_at]
        unfold cpM cpK
        rw [if_neg (by omega), if_pos ⟨rfl, rfl⟩, if_neg (by omega)]
      · rw [mu_ne e]
        unfold cpM cpK
        rw [if_neg e]
    rw [e1]
    exact e_Mo_copyPath_48 ⟨rfl, hm.s1, hf.tr (fr.set ⟨by omega, by omega⟩)⟩
  | succ j ih =>
    intro k hk hc hm hf
    refine e_Mo_copyPath_2 rfl ?_
    refine e_Mo_copyPath_3  ?_
    refine e_Mo_copyPath_5 (fun c1 => absurd c1 (nI_ge (b := 20) (by omega) (by decide))) (fun _ => ?_)
    refine e_Mo_copyPath_8 rfl ?_
    refine e_Mo_copyPath_9 hm.1 rfl ?_
    refine e_Mo_copyPath_12  ?_
    refine e_Mo_copyPath_14 rfl ?_
    refine e_Mo_copyPath_15  ?_
    refine e_Mo_copyPath_16 rfl ?_
    refine e_Mo_copyPath_17  ?_
    refine e_Mo_copyPath_18 rfl ?_
    refine e_Mo_copyPath_19 hm.1 rfl ?_
    refine e_Mo_copyPath_22  ?_
    refine e_Mo_copyPath_24 rfl ?_
    refine e_Mo_copyPath_25  ?_
    refine e_Mo_copyPath_26 rfl ?_
    refine e_Mo_copyPath_27  ?_
    refine e_Mo_copyPath_28 (20 * a + k) hm.a0 (ix20 _ _) (md (a := 0) (show 20 * a + k < 2480 by omega)) mlen ?_
    refine e_Mo_copyPath_29 (20 * b + k) hm.a0 (ix20 _ _) (ml (a := 0) (show 20 * b + k < 2480 by omega)) mlen ?_
    have hm2 := hm.s0 (i := 20 * b + k) (v := cpK M a b k 0 (20 * a + k))
    rw [cpK_s _ _ _ _ (by omega)] at hm2
    refine e_Mo_copyPath_30 rfl ?_
    refine e_Mo_copyPath_33  ?_
    have := ih (k + 1) (by omega) _ hm2 (hf.tr (fr.set ⟨by omega, by omega⟩))
    rw [nI_succ] at this
    exact this
theorem c_Mo_copyPath (hm : mh h th us M) (ha : a < 124) (hb : b < 124) : tv_Ct G mm_Mo_copyPath [.ref 497, .int (nI a), .int (nI b)] h 0 0 (rn (fun h' => mh h' th us (cpM M a b) ∧ fr mS h h')) := by
  refine tv_ct rfl (by decide +kernel) (by simp [Value.category]) (Nat.le_of_ble_eq_true rfl) ?_
  refine e_Mo_copyPath_0  ?_
  refine e_Mo_copyPath_1 (Nat.le_of_ble_eq_true rfl) ?_
  refine l_Mo_copyPath ha hb 20 0 rfl h ?_ fr.rf
  have e1 : cpK M a b 0 = M := by
    funext d j
    unfold cpK
    rw [if_neg (by omega)]
  rw [e1]
  exact hm
end
