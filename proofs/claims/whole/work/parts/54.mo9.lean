/-! the reference: isEmptied, comes, goes, changes -/
/-- nothing but the row 123 and the layer has changed -/
def kq (M M' : mM) : Prop := (∀ r, r ≠ 123 → rsm M M' r) ∧ ∀ u, M' 2 u = M 2 u
section
variable {M M' M2 : mM} {r u : Nat} {p : List Nat} {f : tE} {es : List tE}
theorem kq.rf : kq M M := ⟨fun _ _ => ⟨rfl, fun _ _ => rfl, rfl, rfl, fun _ _ => rfl⟩, fun _ => rfl⟩
theorem kq.tr (h1 : kq M M') (h2 : kq M' M2) : kq M M2 := ⟨fun r hr => (h1.1 r hr).tr (h2.1 r hr), fun u => (h2.2 u).trans (h1.2 u)⟩
theorem kl.q (h : kl M M') : kq M M' := ⟨fun r _ => ⟨h _ _ (by decide), fun _ _ => h _ _ (by decide), h _ _ (by decide), h _ _ (by decide), fun _ _ => h _ _ (by decide)⟩, fun u => h _ _ (by decide)⟩
theorem kq.sh {a : Nat} : kq M (shM M a p) := ⟨(km.sh (C := no_)).1, fun u => (km.sh (C := no_)).2.1 u (fun q => q)⟩
theorem kq.pp (h : kq M M') (hr : r ≠ 123) (hp : mp M r p) : mp M' r p := hp.k (h.1 r hr).1 (h.1 r hr).2.1
theorem kq.e (h : kq M M') (hr : r ≠ 123) (hp : me M r f) : me M' r f := hp.k (h.1 r hr).1 (h.1 r hr).2.1 (h.1 r hr).2.2.1 (h.1 r hr).2.2.2.1 (h.1 r hr).2.2.2.2
theorem kq.t (h : kq M M') (hu : u < 3) (ht : mt M u es) : mt M' u es := by
  refine ⟨(h.2 u).trans ht.1, ht.2.1, fun i f hi => h.e ?_ (ht.2.2 i f hi)⟩
  have := (List.getElem?_eq_some_iff.mp hi).1
  have := ht.2.1
  omega
end
section
variable {G : tv_G} {h h' : tv_H} {th us x y w : Int32} {M : mM} {c z r t a b : Nat} {p q u : List Nat} {es fs : List tE} {s : tT} {f g : tE} {bs cs : List Nat}
theorem o1t (ht : t < 2) : (1 : Int32) - nI t = nI (1 - t) := pk_sub (a := 1) (by omega)
theorem l_Mo_isEmptied {A : Prop} {R : Int32} (hdA : A ∨ ¬ A) (ht : t < 2) (hr : r < 124) (hm : mh h th us M) (hes : mt M t es) (hfs : mt M (1 - t) fs) (hu : mp M r u) (oe : okT es) (of : okT fs) (su : sm u) (hne : u ≠ []) (hR1 : A ∧ al_ fs u es = true ∧ 2 ≤ cn u es → R = 1) (hR0 : ¬ (A ∧ al_ fs u es = true ∧ 2 ≤ cn u es) → R = 0) : ∀ j k, j + k = es.length → ∀ v g6, (A ∧ al_ fs u (es.take k) = true → v = 1) → (¬ (A ∧ al_ fs u (es.take k) = true) → v = 0) → tv_Ev G mm_Mo_isEmptied 32 [some (.ref 497), some (.int (nI t)), some (.int (nI r)), some (.int v), some (.int (nI (cn u (es.take k)))), some (.int (nI k)), g6] [] h c z (rv (.int R) (fun h' => h' = h)) := by
  have hl := hes.2.1
  have hcn : ∀ k, cn u (es.take k) ≤ 40 := fun k => by
    have h1 := List.length_filter_le (fun x => decide (drc u x)) (es.take k)
    unfold cn
    rw [List.length_take] at h1
    omega
  intro j
  induction j with
  | zero =>
    intro k hk v g6 hv1 hv0
    have hk : k = es.length := by omega
    subst hk
    have hc40 := hcn es.length
    rw [List.take_length] at hv1 hv0 hc40 ⊢
    refine e_Mo_isEmptied_32 rfl ?_
    refine e_Mo_isEmptied_34 rfl ?_
    refine e_Mo_isEmptied_35 hm.1 rfl ?_
    refine e_Mo_isEmptied_38 rfl ?_
    refine e_Mo_isEmptied_39 (t) hm.a2 rfl (md (a := 2) (show t < 3 by omega)) mlen ?_
    rw [hes.1]
    refine e_Mo_isEmptied_40 (fun _ => ?_) (fun c1 => absurd (nI_le (Nat.le_refl _) (by omega)) c1)
    refine e_Mo_isEmptied_109 rfl ?_
    by_cases hA : A ∧ al_ fs u es = true
    · rw [hv1 hA]
      refine e_Mo_isEmptied_110 (fun c1 => absurd c1 (by decide)) (fun _ => ?_)
      refine e_Mo_isEmptied_113 rfl ?_
      refine e_Mo_isEmptied_115  ?_
      refine e_Mo_isEmptied_116 (fun c2 => ?_) (fun c2 => ?_)
      · have c2 := (nI_leI (b := 1) (by omega) (by decide)).mp c2
        refine e_Mo_isEmptied_123  ?_
        exact e_Mo_isEmptied_124 (Or.inl rfl) ⟨by rw [hR0 (fun q => by have := q.2.2; omega)], rfl⟩
      · have c2 : 2 ≤ cn u es := by
          rcases Nat.lt_or_ge 1 (cn u es) with q | q
          · exact q
          · exact absurd (nI_le (b := 1) q (by decide)) c2
        refine e_Mo_isEmptied_119  ?_
        refine e_Mo_isEmptied_120  ?_
        exact e_Mo_isEmptied_124 (Or.inr rfl) ⟨by rw [hR1 ⟨hA.1, hA.2, c2⟩], rfl⟩
    · rw [hv0 hA]
      refine e_Mo_isEmptied_110 (fun _ => ?_) (fun c1 => absurd rfl c1)
      refine e_Mo_isEmptied_123  ?_
      exact e_Mo_isEmptied_124 (Or.inl rfl) ⟨by rw [hR0 (fun q => hA ⟨q.1, q.2.1⟩)], rfl⟩
  | succ j ih =>
    intro k hk v g6 hv1 hv0
    have hek : es[k]? = some es[k] := List.getElem?_eq_getElem (by omega)
    have hmk := hes.2.2 k _ hek
    have ok := oe.1 _ (List.getElem_mem (show k < es.length by omega))
    have hc40 := hcn k
    have hp2 := hmk.1.2.1
    have hu2 := hu.2.1
    have hi := ih (k + 1) (by omega)
    rw [take_g hek, cn_app, al_app, al_one, cn_one, nI_succ k] at hi
    refine e_Mo_isEmptied_32 rfl ?_
    refine e_Mo_isEmptied_34 rfl ?_
    refine e_Mo_isEmptied_35 hm.1 rfl ?_
    refine e_Mo_isEmptied_38 rfl ?_
    refine e_Mo_isEmptied_39 (t) hm.a2 rfl (md (a := 2) (show t < 3 by omega)) mlen ?_
    rw [hes.1]
    refine e_Mo_isEmptied_40 (fun c1 => absurd c1 (nI_ge (by omega) (by omega))) (fun _ => ?_)
    refine e_Mo_isEmptied_43  ?_
    refine e_Mo_isEmptied_45 rfl ?_
    refine e_Mo_isEmptied_46  ?_
    refine e_Mo_isEmptied_47 rfl ?_
    refine e_Mo_isEmptied_49  ?_
    rw [ix40]
    refine e_Mo_isEmptied_50 (Nat.le_of_ble_eq_true rfl) ?_
    refine e_Mo_isEmptied_52 rfl ?_
    refine e_Mo_isEmptied_53 rfl ?_
    refine e_Mo_isEmptied_55 rfl ?_
    refine e_Mo_isEmptied_56 hm.1 (by decide) (c_Mo_isBelow hm (a := 40 * t + k) (b := r) (by omega) hr hmk.1 hu ok.s su) (kp ?_) xn
    have skip : ¬ drc u es[k] → tv_Ev G mm_Mo_isEmptied 103 [some (.ref 497), some (.int (nI t)), some (.int (nI r)), some (.int v), some (.int (nI (cn u (es.take k)))), some (.int (nI k)), some (.int (nI (40 * t + k)))] [] h c z (rv (.int R) (fun h' => h' = h)) := by
      intro hn
      refine e_Mo_isEmptied_103 rfl ?_
      refine e_Mo_isEmptied_106  ?_
      rw [if_neg hn, Nat.add_zero] at hi
      exact hi v _ (fun q => hv1 ⟨q.1, by have := q.2; simp [hn] at this; exact this⟩) (fun q => hv0 (fun w => q ⟨w.1, by simp [hn, w.2]⟩))
    by_cases w1 : bw es[k].1 u
    · rw [if_pos w1]
      refine e_Mo_isEmptied_59 (fun c1 => absurd c1 (by decide)) (fun _ => ?_)
      refine e_Mo_isEmptied_62 rfl ?_
      refine e_Mo_isEmptied_63 rfl ?_
      refine e_Mo_isEmptied_65 hm.1 (by decide) (c_Mo_names hm (a := 40 * t + k) (by omega) hmk.1 ok.s) (kp ?_) xn
      refine e_Mo_isEmptied_68 rfl ?_
      refine e_Mo_isEmptied_69 rfl ?_
      refine e_Mo_isEmptied_70 hm.1 (Nat.le_of_ble_eq_true rfl) (c_Mo_names hm (a := r) hr hu su) (kp ?_) xn
      have n1 := List.count_le_length (l := es[k].1) (a := 47)
      have n2 := List.count_le_length (l := u) (a := 47)
      refine e_Mo_isEmptied_73  ?_
      refine e_Mo_isEmptied_74  ?_
      rw [nI_1]
      by_cases w2 : sh es[k].1 = u.length
      · have hd : drc u es[k] := ⟨w1, w2⟩
        rw [(sh_cnt w1 hne).mp w2]
        refine e_Mo_isEmptied_75 (fun c1 => absurd rfl c1) (fun _ => ?_)
        rw [if_pos hd, nI_succ (cn u (es.take k))] at hi
        refine e_Mo_isEmptied_78 rfl ?_
        refine e_Mo_isEmptied_81 rfl ?_
        have nxt : ∀ v' : Int32, (A ∧ (al_ fs u (es.take k) && (!decide (drc u es[k]) || decide (fx fs es[k].1 = none))) = true → v' = 1) → (¬ (A ∧ (al_ fs u (es.take k) && (!decide (drc u es[k]) || decide (fx fs es[k].1 = none))) = true) → v' = 0) → tv_Ev G mm_Mo_isEmptied 102 [some (.ref 497), some (.int (nI t)), some (.int (nI r)), some (.int v), some (.int (nI (cn u (es.take k)) + 1)), some (.int (nI k)), some (.int (nI (40 * t + k)))] [.int v'] h c z (rv (.int R) (fun h' => h' = h)) := by
          intro v' q1 q0
          refine e_Mo_isEmptied_102 (Nat.le_of_ble_eq_true rfl) ?_
          refine e_Mo_isEmptied_103 rfl ?_
          refine e_Mo_isEmptied_106  ?_
          exact hi v' _ q1 q0
        by_cases hA : A ∧ al_ fs u (es.take k) = true
        · rw [hv1 hA] at nxt ⊢
          refine e_Mo_isEmptied_82 (fun c1 => absurd c1 (by decide)) (fun _ => ?_)
          refine e_Mo_isEmptied_85 rfl ?_
          refine e_Mo_isEmptied_86  ?_
          refine e_Mo_isEmptied_87 rfl ?_
          refine e_Mo_isEmptied_88  ?_
          refine e_Mo_isEmptied_89 rfl ?_
          rw [o1t ht]
          refine e_Mo_isEmptied_91 hm.1 (by decide) (c_Mo_find hm (t := 1 - t) (r := 40 * t + k) (by omega) (by omega) hfs hmk.1 (oks of.1) of.2.1 ok.s) (kp ?_) xn
          by_cases hq : fx fs es[k].1 = none
          · rw [hq]
            refine e_Mo_isEmptied_94 (fun c1 => absurd c1 (show ¬ (0 : Int32) ≤ -1 by decide)) (fun _ => ?_)
            refine e_Mo_isEmptied_97  ?_
            refine e_Mo_isEmptied_98  ?_
            exact nxt 1 (fun _ => rfl) (fun q => absurd ⟨hA.1, by simp [hq, hA.2]⟩ q)
          · have hge : 0 ≤ oxt (1 - t) (fx fs es[k].1) := Int32.not_lt.mp (fun e => hq ((oxt_neg (by omega) (fx_40 hfs)).mp e))
            refine e_Mo_isEmptied_94 (fun _ => ?_) (fun c1 => absurd hge c1)
            refine e_Mo_isEmptied_101  ?_
            exact nxt 0 (fun q => by have := q.2; simp [hd, hq] at this) (fun _ => rfl)
        · rw [hv0 hA] at nxt ⊢
          refine e_Mo_isEmptied_82 (fun _ => ?_) (fun c1 => absurd rfl c1)
          refine e_Mo_isEmptied_101  ?_
          exact nxt 0 (fun q => absurd ⟨q.1, by have := q.2; rw [Bool.and_eq_true] at this; exact this.1⟩ hA) (fun _ => rfl)
      · have hcnt : ¬ nI (es[k].1.count 47 + 1) = nI (u.count 47 + 1 + 1) := fun e => w2 ((sh_cnt w1 hne).mpr ((nI_eq (by omega) (by omega)).mp e))
        refine e_Mo_isEmptied_75 (fun _ => ?_) (fun c1 => absurd c1 hcnt)
        exact skip (fun q => w2 q.2)
    · rw [if_neg w1]
      refine e_Mo_isEmptied_59 (fun _ => ?_) (fun c1 => absurd rfl c1)
      exact skip (fun q => w1 q.1)
theorem c_Mo_isEmptied (ht : t < 2) (hr : r < 124) (hm : mh h th us M) (hes : mt M t es) (hfs : mt M (1 - t) fs) (hu : mp M r u) (oe : okT es) (of : okT fs) (su : sm u) (hne : u ≠ []) : tv_Ct G mm_Mo_isEmptied [.ref 497, .int (nI t), .int (nI r)] h 0 0 (rv (.int (if rE es fs u then 1 else 0)) (fun h' => h' = h)) := by
  have main : ∀ v : Int32, ((kx es u = 1 ∧ kx fs u = 1) → v = 1) → (¬ (kx es u = 1 ∧ kx fs u = 1) → v = 0) → tv_Ev G mm_Mo_isEmptied 25 [some (.ref 497), some (.int (nI t)), some (.int (nI r)), none, none, none, none] [.int v] h 0 0 (rv (.int (if rE es fs u then 1 else 0)) (fun h' => h' = h)) := by
    intro v h1 h0
    refine e_Mo_isEmptied_25 (Nat.le_of_ble_eq_true rfl) ?_
    refine e_Mo_isEmptied_26  ?_
    refine e_Mo_isEmptied_27 (Nat.le_of_ble_eq_true rfl) ?_
    refine e_Mo_isEmptied_29  ?_
    refine e_Mo_isEmptied_30 (Nat.le_of_ble_eq_true rfl) ?_
    refine l_Mo_isEmptied (A := kx es u = 1 ∧ kx fs u = 1) (Classical.em _) ht hr hm hes hfs hu oe of su hne (fun q => if_pos q) (fun q => if_neg q) es.length 0 rfl v none (fun q => h1 q.1) (fun q => h0 (fun w => q ⟨w, rfl⟩))
  refine tv_ct rfl (by decide +kernel) (by simp [Value.category]) (Nat.le_of_ble_eq_true rfl) ?_
  refine e_Mo_isEmptied_0 rfl ?_
  refine e_Mo_isEmptied_1 rfl ?_
  refine e_Mo_isEmptied_2 rfl ?_
  refine e_Mo_isEmptied_3 hm.1 (by decide) (c_Mo_isDirectory hm (by omega) hr hes hu (oks oe.1) oe.2.1 su) (kp ?_) xn
  by_cases h1 : kx es u = 1
  · rw [if_pos h1]
    refine e_Mo_isEmptied_6 (fun c1 => absurd c1 (by decide)) (fun _ => ?_)
    refine e_Mo_isEmptied_9 rfl ?_
    refine e_Mo_isEmptied_10  ?_
    refine e_Mo_isEmptied_11 rfl ?_
    refine e_Mo_isEmptied_12  ?_
    refine e_Mo_isEmptied_13 rfl ?_
    rw [o1t ht]
    refine e_Mo_isEmptied_14 hm.1 (by decide) (c_Mo_isDirectory hm (t := 1 - t) (by omega) hr hfs hu (oks of.1) of.2.1 su) (kp ?_) xn
    by_cases h2 : kx fs u = 1
    · rw [if_pos h2]
      refine e_Mo_isEmptied_17 (fun c1 => absurd c1 (by decide)) (fun _ => ?_)
      refine e_Mo_isEmptied_20  ?_
      refine e_Mo_isEmptied_21  ?_
      exact main 1 (fun _ => rfl) (fun q => absurd ⟨h1, h2⟩ q)
    · rw [if_neg h2]
      refine e_Mo_isEmptied_17 (fun _ => ?_) (fun c1 => absurd rfl c1)
      refine e_Mo_isEmptied_24  ?_
      exact main 0 (fun q => absurd q.2 h2) (fun _ => rfl)
  · rw [if_neg h1]
    refine e_Mo_isEmptied_6 (fun _ => ?_) (fun c1 => absurd rfl c1)
    refine e_Mo_isEmptied_24  ?_
    exact main 0 (fun q => absurd q.1 h1) (fun _ => rfl)
/-- item of an entry with its own kind -/
theorem c_Mo_itemE (hm : mh h th (nI bs.length) M) (hl : ly M bs) (ha : a < 120) (he : me M a g) (og : okE g) (hn : bs.length + 39 ≤ 2480) : tv_Ct G mm_Mo_item [.ref 497, .int g.2.1, .int (nI a)] h 0 0 (rn (fun h' => (∃ M', mh h' th (nI (bs ++ ([itf g] : List tI).flatMap itb).length) M' ∧ ly M' (bs ++ ([itf g] : List tI).flatMap itb) ∧ kq M M') ∧ fr mS h h')) := by
  have hp19 := wf_len og.1
  have hc16 := og.2.2.1
  rw [itb_one]
  have post : ∀ (w : Nat), (w = if g.2.1 = 1 then 1 else 2) → (if w = 2 then g.2.2 else []) = g.2.2 → ∀ r h', (rn (fun h' => (∃ M', mh h' th (nI (bs ++ itb (w, g.1, if w = 2 then g.2.2 else [])).length) M' ∧ ly M' (bs ++ itb (w, g.1, if w = 2 then g.2.2 else [])) ∧ kl M M') ∧ fr mS h h')) r h' → (rn (fun h' => (∃ M', mh h' th (nI (bs ++ itb (itf g)).length) M' ∧ ly M' (bs ++ itb (itf g)) ∧ kq M M') ∧ fr mS h h')) r h' := by
    rintro w hw hw2 r h' ⟨e, ⟨M', q1, q2, q3⟩, q4⟩
    rw [hw2, hw] at q1 q2
    exact ⟨e, ⟨M', q1, q2, q3.q⟩, q4⟩
  rcases og.2.1 with ⟨g1, g2⟩ | g1
  · rw [g1]
    exact ct_post (post 1 (by rw [if_pos g1]) (by rw [if_neg (by decide), g2])) (c_Mo_item (v := 1) (by decide) hm hl ha he (by rw [if_neg (by decide)]; simp; omega))
  · rw [g1]
    exact ct_post (post 2 (by rw [if_neg (by rw [g1]; decide)]) (by rw [if_pos rfl])) (c_Mo_item (v := 2) (by decide) hm hl ha he (by rw [if_pos rfl]; omega))
/-- what the reference tells of an entry that the newer tree has -/
def cms (es fs : List tE) (g : tE) : List tI := match fx es g.1 with
  | none => [itf g]
  | some i => match es[i]? with
    | none => [itf g]
    | some f => if f.2 = g.2 then (if g.2.1 = 1 ∧ rE es fs g.1 then [(4, g.1, [])] else []) else [itf g]
theorem nil_ly (hm : mh h th (nI bs.length) M) (hl : ly M bs) : ∃ M', mh h th (nI (bs ++ ([] : List tI).flatMap itb).length) M' ∧ ly M' (bs ++ ([] : List tI).flatMap itb) ∧ kq M M' := by
  refine ⟨M, ?_, ?_, kq.rf⟩
  · show mh h th (nI (bs ++ []).length) M
    rw [List.append_nil]; exact hm
  · show ly M (bs ++ [])
    rw [List.append_nil]; exact hl
theorem c_Mo_comes (ht : t < 2) (hr : r < 120) (hm : mh h th (nI bs.length) M) (hl : ly M bs) (hes : mt M t es) (hfs : mt M (1 - t) fs) (hg : me M r g) (oe : okT es) (of : okT fs) (og : okE g) (hn : bs.length + 39 ≤ 2480) : tv_Ct G mm_Mo_comes [.ref 497, .int (nI t), .int (nI r)] h 0 0 (rn (fun h' => (∃ M', mh h' th (nI (bs ++ (cms es fs g).flatMap itb).length) M' ∧ ly M' (bs ++ (cms es fs g).flatMap itb) ∧ kq M M') ∧ fr mS h h')) := by
  have hp19 := wf_len og.1
  have hI : ∃ I, I = cms es fs g := ⟨_, rfl⟩
  obtain ⟨I, hI⟩ := hI
  rw [← hI]
  unfold cms at hI
  have new : I = [itf g] → ∀ v : Int32, tv_Ev G mm_Mo_comes 20 [some (.ref 497), some (.int (nI t)), some (.int (nI r)), some (.int v)] [] h 0 0 (rn (fun h' => (∃ M', mh h' th (nI (bs ++ I.flatMap itb).length) M' ∧ ly M' (bs ++ I.flatMap itb) ∧ kq M M') ∧ fr mS h h')) := by
    intro e v
    rw [e]
    refine e_Mo_comes_20 rfl ?_
    refine e_Mo_comes_21 rfl ?_
    refine e_Mo_comes_22 hm.1 rfl ?_
    refine e_Mo_comes_25 rfl ?_
    refine e_Mo_comes_26 (r) hm.a3 rfl (md (a := 3) (show r < 120 by omega)) mlen ?_
    refine e_Mo_comes_27 rfl ?_
    rw [hg.2.1]
    refine e_Mo_comes_28 hm.1 (by decide) (c_Mo_itemE hm hl hr hg og hn) (kn ?_) xn
    rintro h2 q
    refine e_Mo_comes_31  ?_
    exact e_Mo_comes_59 ⟨rfl, q⟩
  refine tv_ct rfl (by decide +kernel) (by simp [Value.category]) (Nat.le_of_ble_eq_true rfl) ?_
  refine e_Mo_comes_0 rfl ?_
  refine e_Mo_comes_1 rfl ?_
  refine e_Mo_comes_2 rfl ?_
  refine e_Mo_comes_3 hm.1 (by decide) (c_Mo_find hm (t := t) (r := r) (by omega) (by omega) hes hg.1 (oks oe.1) oe.2.1 og.s) (kp ?_) xn
  refine e_Mo_comes_6 (Nat.le_of_ble_eq_true rfl) ?_
  refine e_Mo_comes_7 rfl ?_
  cases hq : fx es g.1 with
  | none =>
    rw [hq] at hI
    refine e_Mo_comes_8 (fun _ => ?_) (fun c1 => absurd (show (-1 : Int32) < 0 by decide) c1)
    exact new hI _
  | some i =>
    have hi40 := fx_40 hes i hq
    obtain ⟨f, hfi, hf1⟩ := fx_lt hq
    rw [hq] at hI
    simp only [hfi] at hI
    rw [oxt_some]
    have hmf := hes.2.2 i f hfi
    have of1 := oe.1 f (List.mem_of_getElem? hfi)
    refine e_Mo_comes_8 (fun c1 => absurd c1 (nI_pos (by omega))) (fun _ => ?_)
    refine e_Mo_comes_11 rfl ?_
    refine e_Mo_comes_12 rfl ?_
    refine e_Mo_comes_13 rfl ?_
    refine e_Mo_comes_14 hm.1 (by decide) (c_Mo_isAlike hm (a := 40 * t + i) (b := r) (by omega) hr hmf hg of1 og) (kp ?_) xn
    by_cases e1 : f.2 = g.2
    · rw [if_pos e1] at hI
      rw [if_pos e1]
      refine e_Mo_comes_17 (fun _ => ?_) (fun c1 => absurd c1 (by decide))
      refine e_Mo_comes_34 rfl ?_
      refine e_Mo_comes_35 hm.1 rfl ?_
      refine e_Mo_comes_38 rfl ?_
      refine e_Mo_comes_39 (r) hm.a3 rfl (md (a := 3) (show r < 120 by omega)) mlen ?_
      refine e_Mo_comes_40  ?_
      rw [hg.2.1]
      refine e_Mo_comes_41 (fun c1 => ?_) (fun c1 => ?_)
      · rw [if_neg (fun q => c1 q.1)] at hI
        rw [hI]
        exact e_Mo_comes_59 ⟨rfl, nil_ly hm hl, fr.rf⟩
      · refine e_Mo_comes_44 rfl ?_
        refine e_Mo_comes_45 rfl ?_
        refine e_Mo_comes_46 rfl ?_
        refine e_Mo_comes_47 hm.1 (by decide) (c_Mo_isEmptied ht (by omega) hm hes hfs hg.1 oe of og.s og.n) (kp ?_) xn
        by_cases e2 : rE es fs g.1
        · rw [if_pos ⟨c1, e2⟩] at hI
          rw [hI, if_pos e2]
          refine e_Mo_comes_50 (fun c2 => absurd c2 (by decide)) (fun _ => ?_)
          refine e_Mo_comes_53 rfl ?_
          refine e_Mo_comes_54  ?_
          refine e_Mo_comes_55 rfl ?_
          refine e_Mo_comes_56 hm.1 (by decide) (c_Mo_item (v := 4) (by decide) hm hl hr hg (by rw [if_neg (by decide)]; simp; omega)) (kn ?_) xn
          rintro h2 ⟨⟨M2, q1, q2, q3⟩, q4⟩
          rw [if_neg (by decide)] at q1 q2
          exact e_Mo_comes_59 ⟨rfl, ⟨M2, by rw [itb_one]; exact q1, by rw [itb_one]; exact q2, q3.q⟩, q4⟩
        · rw [if_neg (fun q => e2 q.2)] at hI
          rw [hI, if_neg e2]
          refine e_Mo_comes_50 (fun _ => ?_) (fun c2 => absurd rfl c2)
          exact e_Mo_comes_59 ⟨rfl, nil_ly hm hl, fr.rf⟩
    · rw [if_neg e1] at hI
      rw [if_neg e1]
      refine e_Mo_comes_17 (fun c1 => absurd rfl c1) (fun _ => ?_)
      exact new hI _
/-- what the reference tells of an entry that is gone -/
def gos (es fs : List tE) (f : tE) : List tI := if sh f.1 = 0 ∨ (kx fs (par f.1) = 1 ∧ ¬ rE es fs (par f.1)) then [(3, f.1, [])] else []
theorem c_Mo_goes (ht : t < 2) (hr : r < 120) (hm : mh h th (nI bs.length) M) (hl : ly M bs) (hes : mt M t es) (hfs : mt M (1 - t) fs) (hg : me M r f) (oe : okT es) (of : okT fs) (og : okE f) (hn : bs.length + 23 ≤ 2480) : tv_Ct G mm_Mo_goes [.ref 497, .int (nI t), .int (nI r)] h 0 0 (rn (fun h' => (∃ M', mh h' th (nI (bs ++ (gos es fs f).flatMap itb).length) M' ∧ ly M' (bs ++ (gos es fs f).flatMap itb) ∧ kq M M') ∧ fr mS h h')) := by
  have hp19 := wf_len og.1
  have hsl := sh_le f.1
  have hI : ∃ I, I = gos es fs f := ⟨_, rfl⟩
  obtain ⟨I, hI⟩ := hI
  rw [← hI]
  unfold gos at hI
  refine tv_ct rfl (by decide +kernel) (by simp [Value.category]) (Nat.le_of_ble_eq_true rfl) ?_
  refine e_Mo_goes_0 rfl ?_
  refine e_Mo_goes_1 rfl ?_
  refine e_Mo_goes_2 hm.1 (by decide) (c_Mo_shorten hm (a := r) (by omega) hg.1 og.s) (kn ?_) xn
  rintro h1 ⟨hm1, f1⟩
  have kq1 : kq M (shM M r f.1) := kq.sh
  have p1 := shM_p hg.1
  have hl1 : ly (shM M r f.1) bs := fun k c hk => (shM_o (by decide)).trans (hl k c hk)
  have g1 := kq1.e (by omega) hg
  have es1 := kq1.t (by omega) hes
  have fs1 := kq1.t (by omega) hfs
  have yes : I = [(3, f.1, [])] → tv_Ev G mm_Mo_goes 37 [some (.ref 497), some (.int (nI t)), some (.int (nI r)), none] [] h1 0 0 (rn (fun h' => (∃ M', mh h' th (nI (bs ++ I.flatMap itb).length) M' ∧ ly M' (bs ++ I.flatMap itb) ∧ kq M M') ∧ fr mS h h')) := by
    intro e
    rw [e]
    refine e_Mo_goes_37  ?_
    refine e_Mo_goes_38  ?_
    refine e_Mo_goes_42 (Nat.le_of_ble_eq_true rfl) ?_
    refine e_Mo_goes_43 rfl ?_
    refine e_Mo_goes_44 (fun c2 => absurd c2 (by decide)) (fun _ => ?_)
    refine e_Mo_goes_47 rfl ?_
    refine e_Mo_goes_48  ?_
    refine e_Mo_goes_49 rfl ?_
    refine e_Mo_goes_50 hm1.1 (by decide) (c_Mo_item (v := 3) (by decide) hm1 hl1 hr g1 (by rw [if_neg (by decide)]; simp; omega)) (kn ?_) xn
    rintro h2 ⟨⟨M2, q1, q2, q3⟩, q4⟩
    rw [if_neg (by decide)] at q1 q2
    exact e_Mo_goes_53 ⟨rfl, ⟨M2, by rw [itb_one]; exact q1, by rw [itb_one]; exact q2, kq1.tr q3.q⟩, f1.tr q4⟩
  have no : I = [] → tv_Ev G mm_Mo_goes 41 [some (.ref 497), some (.int (nI t)), some (.int (nI r)), none] [] h1 0 0 (rn (fun h' => (∃ M', mh h' th (nI (bs ++ I.flatMap itb).length) M' ∧ ly M' (bs ++ I.flatMap itb) ∧ kq M M') ∧ fr mS h h')) := by
    intro e
    rw [e]
    refine e_Mo_goes_41  ?_
    refine e_Mo_goes_42 (Nat.le_of_ble_eq_true rfl) ?_
    refine e_Mo_goes_43 rfl ?_
    refine e_Mo_goes_44 (fun _ => ?_) (fun c2 => absurd rfl c2)
    obtain ⟨M2, q1, q2, q3⟩ := nil_ly hm1 hl1
    exact e_Mo_goes_53 ⟨rfl, ⟨M2, q1, q2, kq1.tr q3⟩, f1⟩
  refine e_Mo_goes_5 rfl ?_
  refine e_Mo_goes_6 hm1.1 rfl ?_
  refine e_Mo_goes_9  ?_
  refine e_Mo_goes_11 (123) hm1.a1 rfl (md (a := 1) (show 123 < 124 by omega)) mlen ?_
  rw [p1.1, List.length_take, Nat.min_eq_left hsl]
  refine e_Mo_goes_12 (fun c1 => ?_) (fun c1 => ?_)
  · have c1 : sh f.1 = 0 := (nI_eq (b := 0) (by omega) (by decide)).mp c1
    rw [if_pos (Or.inl c1)] at hI
    exact yes hI
  · have c1 : ¬ sh f.1 = 0 := fun e => c1 (by rw [e]; rfl)
    refine e_Mo_goes_15 rfl ?_
    refine e_Mo_goes_16  ?_
    refine e_Mo_goes_17 rfl ?_
    refine e_Mo_goes_18  ?_
    refine e_Mo_goes_19  ?_
    rw [o1t ht]
    refine e_Mo_goes_21 hm1.1 (by decide) (c_Mo_isDirectory hm1 (t := 1 - t) (r := 123) (by omega) (by decide) fs1 p1 (oks of.1) of.2.1 og.s.take) (kp ?_) xn
    by_cases h2 : kx fs (par f.1) = 1
    · rw [if_pos h2]
      refine e_Mo_goes_24 (fun c2 => absurd c2 (by decide)) (fun _ => ?_)
      refine e_Mo_goes_27 rfl ?_
      refine e_Mo_goes_28 rfl ?_
      refine e_Mo_goes_29  ?_
      refine e_Mo_goes_31 hm1.1 (by decide) (c_Mo_isEmptied ht (r := 123) (by decide) hm1 es1 fs1 p1 oe of og.s.take (par_ne c1)) (kp ?_) xn
      by_cases h3 : rE es fs (par f.1)
      · rw [if_neg (by rintro (q | q); exact c1 q; exact q.2 h3)] at hI
        rw [if_pos h3]
        refine e_Mo_goes_34 (fun _ => ?_) (fun c2 => absurd c2 (by decide))
        exact no hI
      · rw [if_pos (Or.inr ⟨h2, h3⟩)] at hI
        rw [if_neg h3]
        refine e_Mo_goes_34 (fun c2 => absurd rfl c2) (fun _ => ?_)
        exact yes hI
    · rw [if_neg (by rintro (q | q); exact c1 q; exact h2 q.1)] at hI
      rw [if_neg h2]
      refine e_Mo_goes_24 (fun _ => ?_) (fun c2 => absurd rfl c2)
      exact no hI
end
