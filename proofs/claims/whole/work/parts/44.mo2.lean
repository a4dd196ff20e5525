/-! the reference: trees in its arrays; shorten, find, isDirectory, mayStand, shift -/
/-- the row r has the entry f -/
def me (M : mM) (r : Nat) (f : tE) : Prop := mp M r f.1 ∧ M 3 r = f.2.1 ∧ M 4 r = nI f.2.2.length ∧ f.2.2.length ≤ 16 ∧ ∀ k c, f.2.2[k]? = some c → M 5 (16 * r + k) = nI c
/-- the tree t has the entries es -/
def mt (M : mM) (t : Nat) (es : List tE) : Prop := M 2 t = nI es.length ∧ es.length ≤ 40 ∧ ∀ i f, es[i]? = some f → me M (40 * t + i) f
theorem me.k {M M' : mM} {r : Nat} {f : tE} (h : me M r f) (h1 : M' 1 r = M 1 r) (h2 : ∀ k, k < 20 → M' 0 (20 * r + k) = M 0 (20 * r + k)) (h3 : M' 3 r = M 3 r) (h4 : M' 4 r = M 4 r) (h5 : ∀ k, k < 16 → M' 5 (16 * r + k) = M 5 (16 * r + k)) : me M' r f := by
  refine ⟨h.1.k h1 h2, h3.trans h.2.1, h4.trans h.2.2.1, h.2.2.2.1, fun k c hk => (h5 k ?_).trans (h.2.2.2.2 k c hk)⟩
  have := (List.getElem?_eq_some_iff.mp hk).1
  have := h.2.2.2.1
  omega
/-- copying a path to a row that is no tree's -/
theorem me.cp {M : mM} {r f t : Nat} {e : tE} (h : me M r e) (hr : r ≠ t) : me (cpM M f t) r e := by
  refine ⟨cp_ne h.1 hr, (cp_o (by decide)).trans h.2.1, (cp_o (by decide)).trans h.2.2.1, h.2.2.2.1, fun k c hk => (cp_o (by decide)).trans (h.2.2.2.2 k c hk)⟩
theorem mt.cp {M : mM} {f t u : Nat} {es : List tE} (h : mt M u es) (ht : ∀ i, i < 40 → 40 * u + i ≠ t) : mt (cpM M f t) u es := by
  refine ⟨(cp_o (by decide)).trans h.1, h.2.1, fun i e hi => (h.2.2 i e hi).cp (ht i ?_)⟩
  have := (List.getElem?_eq_some_iff.mp hi).1
  have := h.2.1
  omega
theorem mt.k {M M' : mM} {u : Nat} {es : List tE} (h : mt M u es) (h0 : M' 2 u = M 2 u) (h1 : ∀ i, i < es.length → M' 1 (40 * u + i) = M 1 (40 * u + i)) (h2 : ∀ i k, i < es.length → k < 20 → M' 0 (20 * (40 * u + i) + k) = M 0 (20 * (40 * u + i) + k)) (h3 : ∀ i, i < es.length → M' 3 (40 * u + i) = M 3 (40 * u + i)) (h4 : ∀ i, i < es.length → M' 4 (40 * u + i) = M 4 (40 * u + i)) (h5 : ∀ i k, i < es.length → k < 16 → M' 5 (16 * (40 * u + i) + k) = M 5 (16 * (40 * u + i) + k)) : mt M' u es := by
  refine ⟨h0.trans h.1, h.2.1, fun i e hi => ?_⟩
  have hl := (List.getElem?_eq_some_iff.mp hi).1
  exact (h.2.2 i e hi).k (h1 i hl) (fun k hk => h2 i k hl hk) (h3 i hl) (h4 i hl) (fun k hk => h5 i k hl hk)
/-- writing a length of a row that is no tree's -/
theorem mt.len {M : mM} {u r : Nat} {v : Int32} {es : List tE} (h : mt M u es) (ht : ∀ i, i < 40 → 40 * u + i ≠ r) : mt (mu M 1 r v) u es := by
  have hl := h.2.1
  refine h.k (mu_ne (by omega)) (fun i hi => mu_ne (fun q => ht i (by omega) q.2)) (fun i k _ _ => mu_ne (by omega)) (fun i _ => mu_ne (by omega)) (fun i _ => mu_ne (by omega)) (fun i k _ _ => mu_ne (by omega))
theorem mp.ln {M : mM} {r r2 : Nat} {v : Int32} {p : List Nat} (h : mp M r p) (hr : r ≠ r2) : mp (mu M 1 r2 v) r p := h.k (mu_ne (by omega)) (fun k _ => mu_ne (by omega))
/-- the sign before which a path may be cut, as the reference looks for it -/
def shr (p : List Nat) : Nat → Nat
  | 0 => 0
  | n + 1 => if p[n]? = some 47 then n else shr p n
theorem shr_shl (p : List Nat) : ∀ n, shr p (n + 1) = shl p n
  | 0 => by
    rw [shr, shl]
    split <;> rfl
  | n + 1 => by
    rw [shr, shl]
    split
    · rfl
    · exact shr_shl p n
theorem shr_sh {p : List Nat} : shr p p.length = sh p := by
  unfold sh
  cases h : p.length with
  | zero => rfl
  | succ n => exact shr_shl p n
theorem sh_le (p : List Nat) : sh p ≤ p.length := by
  have := shl_le p (p.length - 1)
  unfold sh
  omega
/-- what shorten leaves -/
def shM (M : mM) (r : Nat) (p : List Nat) : mM := mu (cpM M r 123) 1 123 (nI (sh p))
theorem shM_p {M : mM} {r : Nat} {p : List Nat} (h : mp M r p) : mp (shM M r p) 123 (p.take (sh p)) := by
  have h1 := cp_at (t := 123) h
  have h2 := sh_le p
  refine ⟨?_, ?_, fun k c hk => ?_⟩
  · unfold shM
    rw [mu_at, List.length_take, Nat.min_eq_left h2]
  · rw [List.length_take]
    have := h.2.1
    omega
  · unfold shM
    rw [mu_ne (by omega)]
    have hl := (List.getElem?_eq_some_iff.mp hk).1
    rw [List.length_take] at hl
    rw [List.getElem?_take_of_lt (by omega)] at hk
    exact h1.2.2 k c hk
theorem shM_r {M : mM} {r r2 : Nat} {p q : List Nat} (h : mp M r2 q) (hr : r2 ≠ 123) : mp (shM M r p) r2 q := (cp_ne h hr).ln hr
theorem shM_t {M : mM} {r u : Nat} {p : List Nat} {es : List tE} (h : mt M u es) (hu : u < 3) : mt (shM M r p) u es := (h.cp (fun i hi => by omega)).len (fun i hi => by omega)
theorem shM_o {M : mM} {r b j : Nat} {p : List Nat} (hb : 2 ≤ b) : shM M r p b j = M b j := by
  unfold shM
  rw [mu_ne (by omega), cp_o hb]
/-- an index of an entry in the reference's arrays -/
def oxt (t : Nat) (o : Option Nat) : Int32 := match o with
  | some i => nI (40 * t + i)
  | none => -1
/-- paths go up -/
abbrev srt (es : List tE) : Prop := es.Pairwise (fun a b => a.1 < b.1)
theorem lt_irr {p : List Nat} (h : p < p) : False := List.lt_irrefl p h
theorem lt_tr {p q r : List Nat} (h1 : p < q) (h2 : q < r) : p < r := List.lt_trans h1 h2
/-- where the last entry with a path stands -/
def lf (es : List tE) (q : List Nat) : Nat → Option Nat
  | 0 => none
  | n + 1 => match es[n]? with
    | some f => if f.1 = q then some n else lf es q n
    | none => lf es q n
theorem fx_of {es : List tE} (hs : srt es) {q : List Nat} : ∀ {i : Nat} {f : tE}, es[i]? = some f → f.1 = q → fx es q = some i := by
  induction es with
  | nil => intro i f h; cases h
  | cons e es ih =>
    intro i f h hq
    rw [fx]
    cases i with
    | zero =>
      have h : e = f := Option.some.inj h
      subst h
      rw [if_neg (by rw [hq]; exact fun w => lt_irr w), if_pos hq]
    | succ i =>
      rw [List.getElem?_cons_succ] at h
      have h1 := (List.pairwise_cons.mp hs).1 f (List.mem_of_getElem? h)
      rw [hq] at h1
      rw [if_pos h1, ih (List.pairwise_cons.mp hs).2 h hq]
      rfl
theorem lf_fx {es : List tE} (hs : srt es) {q : List Nat} : lf es q es.length = fx es q := by
  cases h : fx es q with
  | none =>
    have H : ∀ n, lf es q n = none := by
      intro n
      induction n with
      | zero => rfl
      | succ n ih =>
        rw [lf]
        split
        · rename_i f hf
          split
          · rename_i e
            rw [fx_of hs hf e] at h
            cases h
          · exact ih
        · exact ih
    exact H _
  | some i =>
    obtain ⟨f, hf, e⟩ := fx_lt h
    have hil := (List.getElem?_eq_some_iff.mp hf).1
    have H : ∀ n, i < n → n ≤ es.length → lf es q n = some i := by
      intro n
      induction n with
      | zero => intro h0; omega
      | succ n ih =>
        intro hn hl
        rw [lf]
        split
        · rename_i g hg
          split
          · rename_i e2
            have := fx_of hs hg e2
            rw [h] at this
            exact this.symm
          · rename_i e2
            refine ih ?_ (by omega)
            rcases Nat.lt_or_ge i n with w | w
            · exact w
            · have : i = n := by omega
              subst this
              rw [hf] at hg
              exact absurd (by rw [← Option.some.inj hg]; exact e) e2
        · rename_i hg
          rw [List.getElem?_eq_none_iff] at hg
          omega
    exact H _ hil (Nat.le_refl _)
section
variable {G : tv_G} {h h' : tv_H} {th us : Int32} {M : mM} {c z a b r t : Nat} {p q : List Nat} {es : List tE}
theorem l_Mo_shorten (hm : mh h' th us (cpM M a 123)) (ha : a < 123) (hp : mp M a p) (sp : sm p) (hf : fr mS h h') : ∀ n, n ≤ p.length → shr p n = sh p → tv_Ev G mm_Mo_shorten 14 [some (.ref 497), some (.int (nI a)), some (.int (nI n))] [] h' c z (rn (fun h' => mh h' th us (shM M a p) ∧ fr mS h h')) := by
  have hp2 := hp.2.1
  have hpc := cp_ne (f := a) (t := 123) hp (by omega)
  have fin : ∀ n, n ≤ p.length → sh p = n - 1 → tv_Ev G mm_Mo_shorten 42 [some (.ref 497), some (.int (nI a)), some (.int (nI n))] [] h' c z (rn (fun h' => mh h' th us (shM M a p) ∧ fr mS h h')) := by
    intro n hn he
    unfold shM
    rw [he]
    refine e_Mo_shorten_42 rfl ?_
    refine e_Mo_shorten_43 hm.1 rfl ?_
    refine e_Mo_shorten_46  ?_
    refine e_Mo_shorten_48 rfl ?_
    refine e_Mo_shorten_49 (fun c1 => ?_) (fun c1 => ?_)
    · have : n = 0 := by
        have := (nI_leI (b := 0) (by omega) (by decide)).mp c1
        omega
      subst this
      refine e_Mo_shorten_58  ?_
      refine e_Mo_shorten_59 (123) hm.a1 rfl (ml (a := 1) (show 123 < 124 by omega)) mlen ?_
      exact e_Mo_shorten_60 ⟨rfl, hm.s1, hf.tr (fr.set ⟨by omega, by omega⟩)⟩
    · have h0 : 0 < n := by
        rcases Nat.eq_zero_or_pos n with w | w
        · subst w; exact absurd (by decide) c1
        · exact w
      refine e_Mo_shorten_52 rfl ?_
      refine e_Mo_shorten_53  ?_
      refine e_Mo_shorten_54  ?_
      refine e_Mo_shorten_55  ?_
      rw [show nI n - 1 = nI (n - 1) from pk_sub (b := 1) h0]
      refine e_Mo_shorten_59 (123) hm.a1 rfl (ml (a := 1) (show 123 < 124 by omega)) mlen ?_
      exact e_Mo_shorten_60 ⟨rfl, hm.s1, hf.tr (fr.set ⟨by omega, by omega⟩)⟩
  intro n
  induction n with
  | zero =>
    intro hn he
    refine e_Mo_shorten_14 rfl ?_
    refine e_Mo_shorten_15 (fun _ => ?_) (fun c1 => absurd (by decide) c1)
    exact fin 0 hn (by rw [← he, shr])
  | succ n ih =>
    intro hn he
    have hpk : p[n]? = some p[n] := List.getElem?_eq_getElem (by omega)
    have b1 := sp _ (List.getElem_mem (show n < p.length by omega))
    rw [shr, hpk] at he
    refine e_Mo_shorten_14 rfl ?_
    refine e_Mo_shorten_15 (fun c1 => absurd c1 (nI_nle (by omega) (by omega))) (fun _ => ?_)
    refine e_Mo_shorten_18 rfl ?_
    refine e_Mo_shorten_19 hm.1 rfl ?_
    refine e_Mo_shorten_22  ?_
    refine e_Mo_shorten_24 rfl ?_
    refine e_Mo_shorten_25  ?_
    refine e_Mo_shorten_26 rfl ?_
    refine e_Mo_shorten_27  ?_
    refine e_Mo_shorten_28  ?_
    refine e_Mo_shorten_29  ?_
    refine e_Mo_shorten_30 (20 * a + n) hm.a0 (by rw [ix20, ← Nat.add_assoc, nI_pred]) (md (a := 0) (show 20 * a + n < 2480 by omega)) mlen ?_
    refine e_Mo_shorten_31  ?_
    rw [hpc.2.2 n _ hpk]
    refine e_Mo_shorten_33 (fun c1 => ?_) (fun c1 => ?_)
    · have e1 : p[n] = 47 := (nI_eq (b := 47) (by omega) (by decide)).mp c1
      rw [if_pos (by rw [e1])] at he
      exact fin (n + 1) hn (by rw [← he]; rfl)
    · have e1 : ¬ p[n] = 47 := fun e => c1 (by rw [e]; rfl)
      rw [if_neg (fun w => e1 (Option.some.inj w))] at he
      refine e_Mo_shorten_36 rfl ?_
      refine e_Mo_shorten_39  ?_
      rw [nI_m1 n]
      exact ih (by omega) he
theorem c_Mo_shorten (hm : mh h th us M) (ha : a < 123) (hp : mp M a p) (sp : sm p) : tv_Ct G mm_Mo_shorten [.ref 497, .int (nI a)] h 0 0 (rn (fun h' => mh h' th us (shM M a p) ∧ fr mS h h')) := by
  have hp2 := hp.2.1
  refine tv_ct rfl (by decide +kernel) (by simp [Value.category]) (Nat.le_of_ble_eq_true rfl) ?_
  refine e_Mo_shorten_0 rfl ?_
  refine e_Mo_shorten_1 rfl ?_
  refine e_Mo_shorten_2  ?_
  refine e_Mo_shorten_4 hm.1 (by decide) (c_Mo_copyPath hm (a := a) (b := 123) (by omega) (by omega)) (kn ?_) xn
  rintro h2 ⟨hm2, f2⟩
  refine e_Mo_shorten_7 rfl ?_
  refine e_Mo_shorten_8 hm2.1 rfl ?_
  refine e_Mo_shorten_11 rfl ?_
  refine e_Mo_shorten_12 (a) hm2.a1 rfl (md (a := 1) (show a < 124 by omega)) mlen ?_
  refine e_Mo_shorten_13 (Nat.le_of_ble_eq_true rfl) ?_
  rw [(cp_ne (f := a) (t := 123) hp (by omega)).1]
  exact l_Mo_shorten hm2 ha hp sp f2 p.length (Nat.le_refl _) shr_sh
theorem l_Mo_find (hm : mh h th us M) (ht : t < 3) (hr : r < 124) (hes : mt M t es) (hq : mp M r q) (ss : sme es) (sq : sm q) : ∀ j k, j + k = es.length → tv_Ev G mm_Mo_find 5 [some (.ref 497), some (.int (nI t)), some (.int (nI r)), some (.int (oxt t (lf es q k))), some (.int (nI k))] [] h c z (rv (.int (oxt t (lf es q es.length))) (fun h' => h' = h)) := by
  have hl := hes.2.1
  intro j
  induction j with
  | zero =>
    intro k hk
    have hk : k = es.length := by omega
    subst hk
    refine e_Mo_find_5 rfl ?_
    refine e_Mo_find_7 rfl ?_
    refine e_Mo_find_8 hm.1 rfl ?_
    refine e_Mo_find_11 rfl ?_
    refine e_Mo_find_12 (t) hm.a2 rfl (md (a := 2) (show t < 3 by omega)) mlen ?_
    rw [hes.1]
    refine e_Mo_find_13 (fun _ => ?_) (fun c1 => absurd (nI_le (Nat.le_refl _) (by omega)) c1)
    refine e_Mo_find_49 rfl ?_
    exact e_Mo_find_50 ⟨rfl, rfl⟩
  | succ j ih =>
    intro k hk
    have hek : es[k]? = some es[k] := List.getElem?_eq_getElem (by omega)
    have hmk := hes.2.2 k _ hek
    have sk_ := ss _ (List.getElem_mem (show k < es.length by omega))
    have hi := ih (k + 1) (by omega)
    have e1 : lf es q (k + 1) = if es[k].1 = q then some k else lf es q k := by
      rw [lf, hek]
    rw [nI_succ, e1] at hi
    refine e_Mo_find_5 rfl ?_
    refine e_Mo_find_7 rfl ?_
    refine e_Mo_find_8 hm.1 rfl ?_
    refine e_Mo_find_11 rfl ?_
    refine e_Mo_find_12 (t) hm.a2 rfl (md (a := 2) (show t < 3 by omega)) mlen ?_
    rw [hes.1]
    refine e_Mo_find_13 (fun c1 => absurd c1 (nI_ge (by omega) (by omega))) (fun _ => ?_)
    refine e_Mo_find_16 rfl ?_
    refine e_Mo_find_17  ?_
    refine e_Mo_find_19 rfl ?_
    refine e_Mo_find_20  ?_
    refine e_Mo_find_21 rfl ?_
    refine e_Mo_find_23  ?_
    refine e_Mo_find_24 rfl ?_
    rw [ix40]
    refine e_Mo_find_25 hm.1 (by decide) (c_Mo_order hm (by omega) hr hmk.1 hq sk_ sq) (kp ?_) xn
    by_cases g : es[k].1 = q
    · rw [if_pos g] at hi
      rw [(rov_eq sk_ sq hmk.1.2.1 hq.2.1).mpr g]
      refine e_Mo_find_28 (fun c1 => absurd rfl c1) (fun _ => ?_)
      refine e_Mo_find_31  ?_
      refine e_Mo_find_33 rfl ?_
      refine e_Mo_find_34  ?_
      refine e_Mo_find_35 rfl ?_
      refine e_Mo_find_37  ?_
      refine e_Mo_find_38  ?_
      refine e_Mo_find_42 (Nat.le_of_ble_eq_true rfl) ?_
      refine e_Mo_find_43 rfl ?_
      refine e_Mo_find_46  ?_
      rw [ix40]
      exact hi
    · rw [if_neg g] at hi
      refine e_Mo_find_28 (fun _ => ?_) (fun c1 => absurd ((rov_eq sk_ sq hmk.1.2.1 hq.2.1).mp c1) g)
      refine e_Mo_find_41 rfl ?_
      refine e_Mo_find_42 (Nat.le_of_ble_eq_true rfl) ?_
      refine e_Mo_find_43 rfl ?_
      refine e_Mo_find_46  ?_
      exact hi
theorem c_Mo_find (hm : mh h th us M) (ht : t < 3) (hr : r < 124) (hes : mt M t es) (hq : mp M r q) (ss : sme es) (hs : srt es) (sq : sm q) : tv_Ct G mm_Mo_find [.ref 497, .int (nI t), .int (nI r)] h 0 0 (rv (.int (oxt t (fx es q))) (fun h' => h' = h)) := by
  rw [← lf_fx hs]
  refine tv_ct rfl (by decide +kernel) (by simp [Value.category]) (Nat.le_of_ble_eq_true rfl) ?_
  refine e_Mo_find_0  ?_
  refine e_Mo_find_1 (Nat.le_of_ble_eq_true rfl) ?_
  refine e_Mo_find_2  ?_
  refine e_Mo_find_3 (Nat.le_of_ble_eq_true rfl) ?_
  exact l_Mo_find hm ht hr hes hq ss sq es.length 0 rfl
theorem oxt_neg (ht : t < 3) {o : Option Nat} (ho : ∀ i, o = some i → i < 40) : oxt t o < 0 ↔ o = none := by
  cases o with
  | none => exact ⟨fun _ => rfl, fun _ => (show (-1 : Int32) < 0 by decide)⟩
  | some i => exact ⟨fun e => absurd e (nI_pos (by have := ho i rfl; omega)), fun e => by cases e⟩
theorem fx_40 {M : mM} (hes : mt M t es) {q : List Nat} : ∀ i, fx es q = some i → i < 40 := by
  intro i hi
  obtain ⟨f, hf, -⟩ := fx_lt hi
  have := (List.getElem?_eq_some_iff.mp hf).1
  have := hes.2.1
  omega
theorem c_Mo_isDirectory (hm : mh h th us M) (ht : t < 3) (hr : r < 124) (hes : mt M t es) (hq : mp M r q) (ss : sme es) (hs : srt es) (sq : sm q) : tv_Ct G mm_Mo_isDirectory [.ref 497, .int (nI t), .int (nI r)] h 0 0 (rv (.int (if kx es q = 1 then 1 else 0)) (fun h' => h' = h)) := by
  refine tv_ct rfl (by decide +kernel) (by simp [Value.category]) (Nat.le_of_ble_eq_true rfl) ?_
  refine e_Mo_isDirectory_0 rfl ?_
  refine e_Mo_isDirectory_1 rfl ?_
  refine e_Mo_isDirectory_2 rfl ?_
  refine e_Mo_isDirectory_3 hm.1 (by decide) (c_Mo_find hm ht hr hes hq ss hs sq) (kp ?_) xn
  refine e_Mo_isDirectory_6 (Nat.le_of_ble_eq_true rfl) ?_
  refine e_Mo_isDirectory_7 rfl ?_
  cases hf : fx es q with
  | none =>
    rw [kx_no hf]
    refine e_Mo_isDirectory_8 (fun _ => ?_) (fun c1 => absurd (show (-1 : Int32) < 0 by decide) c1)
    refine e_Mo_isDirectory_25  ?_
    exact e_Mo_isDirectory_26 (Or.inl rfl) ⟨rfl, rfl⟩
  | some i =>
    have hi := fx_40 hes i hf
    obtain ⟨f, hfi, -⟩ := fx_lt hf
    rw [kx_at hf hfi]
    show tv_Ev G mm_Mo_isDirectory 8 [some (.ref 497), some (.int (nI t)), some (.int (nI r)), some (.int (nI (40 * t + i)))] [.int (nI (40 * t + i))] h 0 0 _
    refine e_Mo_isDirectory_8 (fun c1 => absurd c1 (nI_pos (by omega))) (fun _ => ?_)
    refine e_Mo_isDirectory_11 rfl ?_
    refine e_Mo_isDirectory_12 hm.1 rfl ?_
    refine e_Mo_isDirectory_15 rfl ?_
    refine e_Mo_isDirectory_16 (40 * t + i) hm.a3 rfl (md (a := 3) (show 40 * t + i < 120 by omega)) mlen ?_
    refine e_Mo_isDirectory_17  ?_
    rw [(hes.2.2 i f hfi).2.1]
    refine e_Mo_isDirectory_18 (fun c1 => ?_) (fun c1 => ?_)
    · refine e_Mo_isDirectory_25  ?_
      exact e_Mo_isDirectory_26 (Or.inl rfl) ⟨by rw [if_neg c1], rfl⟩
    · refine e_Mo_isDirectory_21  ?_
      refine e_Mo_isDirectory_22  ?_
      exact e_Mo_isDirectory_26 (Or.inr rfl) ⟨by rw [if_pos c1], rfl⟩
theorem c_Mo_mayStand (hm : mh h th us M) (ht : t < 3) (hr : r < 123) (hes : mt M t es) (hq : mp M r q) (ss : sme es) (hs : srt es) (sq : sm q) : tv_Ct G mm_Mo_mayStand [.ref 497, .int (nI t), .int (nI r)] h 0 0 (rv (.int (if hpl es q then 1 else 0)) (fun h' => mh h' th us (shM M r q) ∧ fr mS h h')) := by
  have hq2 := hq.2.1
  have hsl := sh_le q
  refine tv_ct rfl (by decide +kernel) (by simp [Value.category]) (Nat.le_of_ble_eq_true rfl) ?_
  refine e_Mo_mayStand_0 rfl ?_
  refine e_Mo_mayStand_1 rfl ?_
  refine e_Mo_mayStand_2 hm.1 (by decide) (c_Mo_shorten hm hr hq sq) (kn ?_) xn
  rintro h2 ⟨hm2, f2⟩
  have p2 := shM_p hq
  refine e_Mo_mayStand_5 rfl ?_
  refine e_Mo_mayStand_6 hm2.1 rfl ?_
  refine e_Mo_mayStand_9  ?_
  refine e_Mo_mayStand_11 (123) hm2.a1 rfl (md (a := 1) (show 123 < 124 by omega)) mlen ?_
  rw [p2.1, List.length_take, Nat.min_eq_left hsl]
  refine e_Mo_mayStand_12 (fun c1 => ?_) (fun c1 => ?_)
  · have c1 : sh q = 0 := (nI_eq (b := 0) (by omega) (by decide)).mp c1
    refine e_Mo_mayStand_25  ?_
    refine e_Mo_mayStand_26  ?_
    exact e_Mo_mayStand_30 (Or.inr rfl) ⟨by rw [if_pos (Or.inl c1)], hm2, f2⟩
  · have c1 : ¬ sh q = 0 := fun e => c1 (by rw [e]; rfl)
    refine e_Mo_mayStand_15 rfl ?_
    refine e_Mo_mayStand_16 rfl ?_
    refine e_Mo_mayStand_17  ?_
    refine e_Mo_mayStand_19 hm2.1 (by decide) (c_Mo_isDirectory hm2 ht (by decide) (shM_t hes ht) p2 ss hs sq.take (r := 123)) (kp ?_) xn
    by_cases g : kx es (q.take (sh q)) = 1
    · rw [if_pos g, if_pos (show hpl es q from Or.inr g)]
      refine e_Mo_mayStand_22 (fun c2 => absurd c2 (by decide)) (fun _ => ?_)
      refine e_Mo_mayStand_25  ?_
      refine e_Mo_mayStand_26  ?_
      exact e_Mo_mayStand_30 (Or.inr rfl) ⟨rfl, hm2, f2⟩
    · rw [if_neg g, if_neg (show ¬ hpl es q from by rintro (w | w); exact c1 w; exact g w)]
      refine e_Mo_mayStand_22 (fun _ => ?_) (fun c2 => absurd rfl c2)
      refine e_Mo_mayStand_29  ?_
      exact e_Mo_mayStand_30 (Or.inl rfl) ⟨rfl, hm2, f2⟩
end
