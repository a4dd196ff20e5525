/-! the reference: its state; path, directory, copy, remove -/
/-- a tree as the calls make it -/
def okT (es : List tE) : Prop := (∀ f ∈ es, okE f) ∧ srt es ∧ ∀ f ∈ es, hpl es f.1
def okX (s : tT) : Prop := okT s.1 ∧ okT s.2.1 ∧ (s.2.2.1 = [] ∨ wf s.2.2.1 = true) ∧ ∀ x ∈ s.2.2.2, okI x
theorem okX.S {s : tT} (h : okX s) : okS s := ⟨h.1.1, h.2.1.1, h.2.2⟩
theorem okX.tree {s : tT} (hs : okX s) (x : Int32) : okT (gt s x) := by
  unfold gt
  split
  · exact hs.1
  · exact hs.2.1
theorem fx_nil {es : List tE} (h : ∀ f ∈ es, okE f) : fx es [] = none := by
  cases es with
  | nil => rfl
  | cons e r =>
    rw [fx, if_neg (List.not_lt_nil _), if_neg (h e List.mem_cons_self).n]
theorem lt3 (p q : List Nat) : p < q ∨ p = q ∨ q < p := by
  rcases Classical.em (p < q) with h | h
  · exact Or.inl h
  · rcases Classical.em (q < p) with h2 | h2
    · exact Or.inr (Or.inr h2)
    · exact Or.inr (Or.inl (List.le_antisymm (List.not_lt.mp h2) (List.not_lt.mp h)))
theorem fi_lo {q : List Nat} : ∀ {es : List tE} {j : Nat} {f : tE}, j < fi es q → es[j]? = some f → f.1 < q := by
  intro es
  induction es with
  | nil => intro j f h; cases h
  | cons e r ih =>
    intro j f h hf
    rw [fi] at h
    split at h
    · rename_i h1
      cases j with
      | zero => rw [← Option.some.inj hf]; exact h1
      | succ j =>
        rw [List.getElem?_cons_succ] at hf
        exact ih (by omega) hf
    · omega
theorem fi_hi {q : List Nat} : ∀ {es : List tE} {j : Nat} {f : tE}, srt es → fi es q ≤ j → es[j]? = some f → ¬ f.1 < q := by
  intro es
  induction es with
  | nil => intro j f _ _ h; cases h
  | cons e r ih =>
    intro j f hs h hf
    have h2 := List.pairwise_cons.mp hs
    rw [fi] at h
    split at h
    · cases j with
      | zero => omega
      | succ j =>
        rw [List.getElem?_cons_succ] at hf
        exact ih h2.2 (by omega) hf
    · rename_i h1
      cases j with
      | zero => rw [← Option.some.inj hf]; exact h1
      | succ j =>
        rw [List.getElem?_cons_succ] at hf
        exact fun w => h1 (lt_tr (h2.1 f (List.mem_of_getElem? hf)) w)
theorem fi_se {es : List tE} {q : List Nat} (hs : srt es) (hn : fx es q = none) : se es q es.length = fi es q := by
  have hl := fi_le es q
  have H : ∀ n, fi es q ≤ n → n ≤ es.length → se es q n = fi es q := by
    intro n
    induction n with
    | zero => intro h _; rw [se]; omega
    | succ n ih =>
      intro h1 h2
      have hen : es[n]? = some es[n] := List.getElem?_eq_getElem (by omega)
      rw [se, hen]
      show (if q < es[n].1 then se es q n else n + 1) = _
      rcases Nat.lt_or_ge n (fi es q) with w | w
      · have := fi_lo w hen
        rw [if_neg (fun w2 => lt_irr (lt_tr this w2))]
        omega
      · have := fi_hi hs w hen
        rcases lt3 es[n].1 q with g | g | g
        · exact absurd g this
        · rw [fx_of hs hen g] at hn; cases hn
        · rw [if_pos g]
          exact ih w (by omega)
  exact H es.length hl (Nat.le_refl _)
theorem pu_new {es : List tE} {f : tE} (hs : srt es) (hn : fx es f.1 = none) (hl : es.length ≠ 40) : pu es f = iat es (fi es f.1) f := by
  unfold pu
  rw [hn]
  show (if es.length = 40 then es else iat es (se es f.1 es.length) f) = _
  rw [if_neg hl, fi_se hs hn]
theorem pu_old {es : List tE} {f : tE} {i : Nat} (hi : fx es f.1 = some i) : pu es f = es.set i f := by
  unfold pu
  rw [hi]
/-- the reference's arrays hold a state -/
def mss (M : mM) (s : tT) : Prop := mt M 0 s.1 ∧ mt M 1 s.2.1 ∧ mp M 120 s.2.2.1 ∧ (∀ k c, (lyb s)[k]? = some c → M 6 k = nI c) ∧ (lyb s).length ≤ 2480
def msr (h : tv_H) (th : Int32) (s : tT) : Prop := ∃ M, mh h th (nI (lyb s).length) M ∧ mss M s
abbrev un : Nat → Prop := fun r => 80 ≤ r ∧ r ≠ 120
abbrev uc : Nat → Prop := fun u => u = 2
theorem mss.tree {M : mM} {s : tT} (h : mss M s) (x : Int32) : mt M (tn x) (gt s x) := by
  unfold tn gt
  split
  · exact h.1
  · exact h.2.1
theorem mss.kept {M M' : mM} {s : tT} (h : mss M s) (hk : km un uc M M') : mss M' s := ⟨hk.t (by decide) (fun i hi w => by have := w.1; omega) h.1, hk.t (by decide) (fun i hi w => by have := w.1; omega) h.2.1, hk.p (fun w => w.2 rfl) h.2.2.1, fun k c hc => (hk.2.2 k).trans (h.2.2.2.1 k c hc), h.2.2.2.2⟩
theorem mss.upd {M M' : mM} {s : tT} {x : Int32} {es : List tE} (h : mss M s) (ht : mt M' (tn x) es) (hk : km (fun r => trs (tn x) r ∨ un r) (fun u => u = tn x ∨ u = 2) M M') : mss M' (st s x es) := by
  unfold tn st at *
  split
  · rename_i hx
    rw [if_pos hx] at ht hk
    exact ⟨ht, hk.t (by omega) (fun i hi w => by have := w; omega) h.2.1, hk.p (fun w => by have := w; omega) h.2.2.1, fun k c hc => (hk.2.2 k).trans (h.2.2.2.1 k c hc), h.2.2.2.2⟩
  · rename_i hx
    rw [if_neg hx] at ht hk
    exact ⟨hk.t (by omega) (fun i hi w => by have := w; omega) h.1, ht, hk.p (fun w => by have := w; omega) h.2.2.1, fun k c hc => (hk.2.2 k).trans (h.2.2.2.1 k c hc), h.2.2.2.2⟩
theorem lyb_st {s : tT} {x : Int32} {es : List tE} : lyb (st s x es) = lyb s := by
  unfold lyb st
  split <;> rfl
theorem mt.set {M M' : mM} {t i : Nat} {es : List tE} {f : tE} (h : mt M t es) (hi : i < es.length) (hk : km (fun r => r = 40 * t + i) no_ M M') (he : me M' (40 * t + i) f) : mt M' t (es.set i f) := by
  refine ⟨by rw [List.length_set]; exact (hk.2.1 t (fun q => q)).trans h.1, by rw [List.length_set]; exact h.2.1, fun j g hj => ?_⟩
  rw [List.getElem?_set] at hj
  by_cases e : i = j
  · subst e
    rw [if_pos rfl, if_pos hi] at hj
    rw [← Option.some.inj hj]
    exact he
  · rw [if_neg e] at hj
    exact hk.e (by omega) (h.2.2 j g hj)
section
variable {G : tv_G} {h h' : tv_H} {th us x y w : Int32} {M : mM} {c z r t : Nat} {p q : List Nat} {es : List tE} {s : tT}
theorem c_Mo_path {a b d : Int32} (hs : msr h th s) : tv_Ct G mm_Mo_path [.ref 497, .int a, .int b, .int d] h 0 0 (rv (.int (if wf (w3 a b d) = true then 1 else 0)) (fun h' => msr h' 0 (s.1, s.2.1, w3p a b d, s.2.2.2) ∧ fr mS h h')) := by
  obtain ⟨M, hm, hss⟩ := hs
  refine tv_ct rfl (by decide +kernel) (by simp [Value.category]) (Nat.le_of_ble_eq_true rfl) ?_
  refine e_Mo_path_0 rfl ?_
  refine e_Mo_path_1  ?_
  refine e_Mo_path_2 hm.1 (Nat.le_of_ble_eq_true rfl) ?_
  have hm2 := hm.obj 0 (nI (lyb s).length)
  refine e_Mo_path_5 rfl ?_
  refine e_Mo_path_6  ?_
  refine e_Mo_path_8 rfl ?_
  refine e_Mo_path_9 rfl ?_
  refine e_Mo_path_10 rfl ?_
  refine e_Mo_path_11 hm2.1 (by decide) (c_Mo_lay hm2 (r := 120) (by decide)) (kv ?_) xn
  rintro h3 ⟨⟨M3, hm3, p3, k3⟩, f3⟩
  have hl : (w3 a b d).length ≤ 20 := p3.2.1
  have t30 := k3.t (u := 0) (fun q => q) (fun i hi => by omega) hss.1
  have t31 := k3.t (u := 1) (fun q => q) (fun i hi => by omega) hss.2.1
  have ff : fr mS h h3 := (fr.set ⟨by omega, by omega⟩).tr f3
  unfold w3p
  by_cases hw : wf (w3 a b d) = true
  · rw [if_pos hw, if_pos hw]
    refine e_Mo_path_14 (Nat.le_of_ble_eq_true rfl) ?_
    refine e_Mo_path_16 rfl ?_
    refine e_Mo_path_17 hm3.1 rfl ?_
    refine e_Mo_path_20  ?_
    refine e_Mo_path_22 rfl ?_
    refine e_Mo_path_24 (fun c1 => absurd c1 (by decide)) (fun _ => ?_)
    refine e_Mo_path_27 rfl ?_
    refine e_Mo_path_28 hm3.1 rfl ?_
    refine e_Mo_path_31  ?_
    refine e_Mo_path_33 (120) hm3.a1 rfl (md (a := 1) (show 120 < 124 by omega)) mlen ?_
    refine e_Mo_path_34  ?_
    refine e_Mo_path_38 (120) hm3.a1 rfl (ml (a := 1) (show 120 < 124 by omega)) mlen ?_
    refine e_Mo_path_39 rfl ?_
    refine e_Mo_path_41 (Or.inr rfl) ⟨rfl, ⟨_, hm3.s1, ?_, ?_, ?_, fun k c hc => ?_, hss.2.2.2.2⟩, ff.tr (fr.set ⟨by omega, by omega⟩)⟩
    · exact t30.len (fun i hi => by omega)
    · exact t31.len (fun i hi => by omega)
    · refine ⟨?_, p3.2.1, fun k c hk => (mu_ne (by omega)).trans (p3.2.2 k c hk)⟩
      rw [mu_at]; exact p3.1
    · rw [mu_ne (by omega)]
      exact (k3.2.2 k).trans (hss.2.2.2.1 k c hc)
  · rw [if_neg hw, if_neg hw]
    refine e_Mo_path_14 (Nat.le_of_ble_eq_true rfl) ?_
    refine e_Mo_path_16 rfl ?_
    refine e_Mo_path_17 hm3.1 rfl ?_
    refine e_Mo_path_20  ?_
    refine e_Mo_path_22 rfl ?_
    refine e_Mo_path_24 (fun _ => ?_) (fun c1 => absurd rfl c1)
    refine e_Mo_path_37  ?_
    refine e_Mo_path_38 (120) hm3.a1 rfl (ml (a := 1) (show 120 < 124 by omega)) mlen ?_
    refine e_Mo_path_39 rfl ?_
    refine e_Mo_path_41 (Or.inl rfl) ⟨rfl, ⟨_, hm3.s1, ?_, ?_, ?_, fun k c hc => ?_, hss.2.2.2.2⟩, ff.tr (fr.set ⟨by omega, by omega⟩)⟩
    · exact t30.len (fun i hi => by omega)
    · exact t31.len (fun i hi => by omega)
    · refine ⟨?_, Nat.zero_le _, fun k c hk => by cases hk⟩
      rw [mu_at]; rfl
    · rw [mu_ne (by omega)]
      exact (k3.2.2 k).trans (hss.2.2.2.1 k c hc)
theorem c_Mo_directory (hs : msr h th s) (ok : okX s) : tv_Ct G mm_Mo_directory [.ref 497, .int x] h 0 0 (rn (fun h' => msr h' (nI (mdir s x).1) (mdir s x).2 ∧ fr mS h h')) := by
  obtain ⟨M, hm, hss⟩ := hs
  unfold mdir
  by_cases hx : it x
  · rw [if_pos hx]
    have okt := ok.tree x
    have sp := ok.S.sm
    have ht2 := tn_lt x
    have hRx : ∃ R, R = (if s.2.2.1 = [] ∨ fx (gt s x) s.2.2.1 ≠ none ∨ ¬ hpl (gt s x) s.2.2.1 then (2, s) else if (gt s x).length = 40 then (3, s) else (0, st s x (pu (gt s x) (s.2.2.1, 1, [])))) := ⟨_, rfl⟩
    obtain ⟨R, hR⟩ := hRx
    rw [← hR]
    have tail : ∀ hc M' (b : Int32) u, mh hc th (nI (lyb s).length) M' → fr mS h hc → mss M' s → (b = 0 ∨ b = 1) → (b = 1 ↔ (s.2.2.1 = [] ∨ fx (gt s x) s.2.2.1 ≠ none ∨ ¬ hpl (gt s x) s.2.2.1)) → tv_Ev G mm_Mo_directory 45 [some (.ref 497), some (.int x), some (.int 1), some (.int b), u] [] hc 0 0 (rn (fun h' => msr h' (nI R.1) R.2 ∧ fr mS h h')) := by
      intro hc M' b u hmc hf hsc hb hbi
      have htc := hsc.tree x
      have hl := htc.2.1
      have fin : ∀ d : Int32, (d = 0 ∨ d = 1) → (d = 1 ↔ (gt s x).length = 40) → tv_Ev G mm_Mo_directory 76 [some (.ref 497), some (.int x), some (.int 1), some (.int b), u] [.int d, .int b, .int 0, .ref 497] hc 0 0 (rn (fun h' => msr h' (nI R.1) R.2 ∧ fr mS h h')) := by
        intro d hd hdi
        refine e_Mo_directory_76 hmc.1 (by decide) (c_Mo_fails hmc) (kv ?_) xn
        rintro h2 ⟨hm2, f2⟩
        rcases hb with rfl | rfl
        · have nb : ¬ (s.2.2.1 = [] ∨ fx (gt s x) s.2.2.1 ≠ none ∨ ¬ hpl (gt s x) s.2.2.1) := fun w => absurd (hbi.mpr w) (by decide)
          rw [if_neg nb] at hR
          rcases hd with rfl | rfl
          · have nd : ¬ (gt s x).length = 40 := fun w => absurd (hdi.mpr w) (by decide)
            rw [if_neg nd] at hR
            rw [hR]
            have hn : fx (gt s x) s.2.2.1 = none := by
              rcases hq : fx (gt s x) s.2.2.1 with _ | i
              · rfl
              · exact absurd (nb (Or.inr (Or.inl (by rw [hq]; intro e; cases e)))) (fun q => q)
            refine e_Mo_directory_79 (fun c1 => absurd rfl c1) (fun _ => ?_)
            refine e_Mo_directory_82 rfl ?_
            refine e_Mo_directory_83 rfl ?_
            refine e_Mo_directory_84  ?_
            refine e_Mo_directory_86  ?_
            rw [tn_x hx]
            refine e_Mo_directory_87 hm2.1 (by decide) (c_Mo_insert hm2 (t := tn x) (r := 120) (by omega) (by decide) (by decide) htc (by omega) hsc.2.2.1 (oks okt.1) sp) (kv ?_) xn
            rintro h3 ⟨⟨M3, hm3, t3, k3⟩, f3⟩
            rw [← tn_x hx]
            refine e_Mo_directory_90 (Nat.le_of_ble_eq_true rfl) ?_
            rw [← pu_new okt.2.1 (f := (s.2.2.1, 1, [])) hn nd] at t3
            refine e_Mo_directory_92 ⟨rfl, ⟨M3, ?_, hsc.upd t3 (k3.mono (fun _ q => Or.inl q) (fun _ q => Or.inl q))⟩, (hf.tr f2).tr f3⟩
            rw [lyb_st]
            exact hm3
          · rw [if_pos (hdi.mp rfl)] at hR
            rw [hR]
            refine e_Mo_directory_79 (fun _ => ?_) (fun c1 => absurd c1 (by decide))
            exact e_Mo_directory_92 ⟨rfl, ⟨M', hm2, hsc⟩, hf.tr f2⟩
        · rw [if_pos (hbi.mp rfl)] at hR
          rw [hR]
          refine e_Mo_directory_79 (fun _ => ?_) (fun c1 => absurd c1 (by rcases hd with rfl | rfl <;> decide))
          refine e_Mo_directory_92 ⟨rfl, ⟨M', ?_, hsc⟩, hf.tr f2⟩
          rw [show fk 0 1 d = 2 from rfl] at hm2
          exact hm2
      refine e_Mo_directory_45 rfl ?_
      refine e_Mo_directory_46 rfl ?_
      refine e_Mo_directory_47 (fun _ => ?_) (fun c1 => absurd c1 (by decide))
      refine e_Mo_directory_54  ?_
      refine e_Mo_directory_55 rfl ?_
      refine e_Mo_directory_56 rfl ?_
      refine e_Mo_directory_57 (fun c1 => absurd c1 (by decide)) (fun _ => ?_)
      refine e_Mo_directory_60 rfl ?_
      refine e_Mo_directory_61 hmc.1 rfl ?_
      refine e_Mo_directory_64 rfl ?_
      refine e_Mo_directory_65 (tn x) hmc.a2 (tn_x hx) (md (a := 2) (show tn x < 3 by omega)) mlen ?_
      rw [htc.1]
      refine e_Mo_directory_66  ?_
      refine e_Mo_directory_68 (fun c1 => ?_) (fun c1 => ?_)
      · refine e_Mo_directory_75  ?_
        exact fin 0 (Or.inl rfl) ⟨fun w => absurd w (by decide), fun w => absurd (by rw [w]; rfl) c1⟩
      · refine e_Mo_directory_71  ?_
        refine e_Mo_directory_72  ?_
        exact fin 1 (Or.inr rfl) ⟨fun _ => (nI_eq (b := 40) (by omega) (by decide)).mp c1, fun _ => rfl⟩
    refine tv_ct rfl (by decide +kernel) (by simp [Value.category]) (Nat.le_of_ble_eq_true rfl) ?_
    refine e_Mo_directory_0 rfl ?_
    refine e_Mo_directory_1 (by decide) c_Mo_isTree (kp ?_) xn
    rw [if_pos hx]
    refine e_Mo_directory_4 (Nat.le_of_ble_eq_true rfl) ?_
    refine e_Mo_directory_5 rfl ?_
    refine e_Mo_directory_6 (fun c1 => absurd c1 (by decide)) (fun _ => ?_)
    refine e_Mo_directory_9 rfl ?_
    refine e_Mo_directory_10 hm.1 rfl ?_
    refine e_Mo_directory_13  ?_
    refine e_Mo_directory_15 (120) hm.a1 rfl (md (a := 1) (show 120 < 124 by omega)) mlen ?_
    have hp := hss.2.2.1
    have hp2 := hp.2.1
    rw [hp.1]
    have bad : ∀ hc M' , mh hc th (nI (lyb s).length) M' → fr mS h hc → mss M' s → (s.2.2.1 = [] ∨ fx (gt s x) s.2.2.1 ≠ none ∨ ¬ hpl (gt s x) s.2.2.1) → tv_Ev G mm_Mo_directory 39 [some (.ref 497), some (.int x), some (.int 1), none, none] [] hc 0 0 (rn (fun h' => msr h' (nI R.1) R.2 ∧ fr mS h h')) := by
      intro hc M' h1 h2 h3 h4
      refine e_Mo_directory_39  ?_
      refine e_Mo_directory_40  ?_
      refine e_Mo_directory_44 (Nat.le_of_ble_eq_true rfl) ?_
      exact tail hc M' 1 none h1 h2 h3 (Or.inr rfl) ⟨fun _ => h4, fun _ => rfl⟩
    refine e_Mo_directory_16 (fun c1 => ?_) (fun c1 => ?_)
    · have c1 : s.2.2.1.length = 0 := (nI_eq (b := 0) (by omega) (by decide)).mp c1
      exact bad h M hm fr.rf hss (Or.inl (List.length_eq_zero_iff.mp c1))
    · have g1 : s.2.2.1 ≠ [] := by intro e; rw [e] at c1; exact c1 rfl
      have htc := hss.tree x
      refine e_Mo_directory_19 rfl ?_
      refine e_Mo_directory_20 rfl ?_
      refine e_Mo_directory_21  ?_
      rw [tn_x hx]
      refine e_Mo_directory_23 hm.1 (by decide) (c_Mo_find hm (t := tn x) (r := 120) (by omega) (by decide) htc hp (oks okt.1) okt.2.1 sp) (kp ?_) xn
      rw [← tn_x hx]
      by_cases g2 : fx (gt s x) s.2.2.1 = none
      · rw [g2]
        refine e_Mo_directory_26 (fun c2 => absurd c2 (show ¬ (0 : Int32) ≤ -1 by decide)) (fun _ => ?_)
        refine e_Mo_directory_29 rfl ?_
        refine e_Mo_directory_30 rfl ?_
        refine e_Mo_directory_31  ?_
        rw [tn_x hx]
        refine e_Mo_directory_33 hm.1 (by decide) (c_Mo_mayStand hm (t := tn x) (r := 120) (by omega) (by decide) htc hp (oks okt.1) okt.2.1 sp) (kv ?_) xn
        rw [← tn_x hx]
        rintro h2 ⟨hm2, f2⟩
        have s2 := hss.kept (M' := shM M 120 s.2.2.1) (km.sh.mono (by rintro r rfl; exact ⟨by omega, by omega⟩) (fun _ q => q))
        by_cases g3 : hpl (gt s x) s.2.2.1
        · rw [if_pos g3]
          refine e_Mo_directory_36 (fun _ => ?_) (fun c2 => absurd c2 (by decide))
          refine e_Mo_directory_43  ?_
          refine e_Mo_directory_44 (Nat.le_of_ble_eq_true rfl) ?_
          exact tail h2 _ 0 none hm2 f2 s2 (Or.inl rfl) ⟨fun e => absurd e (by decide), by rintro (q | q | q); exact absurd q g1; exact absurd g2 q; exact absurd g3 q⟩
        · rw [if_neg g3]
          refine e_Mo_directory_36 (fun c2 => absurd rfl c2) (fun _ => ?_)
          exact bad h2 _ hm2 f2 s2 (Or.inr (Or.inr g3))
      · have hge : 0 ≤ oxt (tn x) (fx (gt s x) s.2.2.1) := Int32.not_lt.mp (fun e => g2 ((oxt_neg (by omega) (fx_40 htc)).mp e))
        refine e_Mo_directory_26 (fun _ => ?_) (fun c2 => absurd hge c2)
        exact bad h M hm fr.rf hss (Or.inr (Or.inl g2))
  · rw [if_neg hx]
    refine tv_ct rfl (by decide +kernel) (by simp [Value.category]) (Nat.le_of_ble_eq_true rfl) ?_
    refine e_Mo_directory_0 rfl ?_
    refine e_Mo_directory_1 (by decide) c_Mo_isTree (kp ?_) xn
    rw [if_neg hx]
    refine e_Mo_directory_4 (Nat.le_of_ble_eq_true rfl) ?_
    refine e_Mo_directory_5 rfl ?_
    refine e_Mo_directory_6 (fun _ => ?_) (fun c1 => absurd rfl c1)
    refine e_Mo_directory_43  ?_
    refine e_Mo_directory_44 (Nat.le_of_ble_eq_true rfl) ?_
    refine e_Mo_directory_45 rfl ?_
    refine e_Mo_directory_46 rfl ?_
    refine e_Mo_directory_47 (fun c1 => absurd rfl c1) (fun _ => ?_)
    refine e_Mo_directory_50  ?_
    refine e_Mo_directory_51  ?_
    refine e_Mo_directory_55 rfl ?_
    refine e_Mo_directory_56 rfl ?_
    refine e_Mo_directory_57 (fun _ => ?_) (fun c1 => absurd rfl c1)
    refine e_Mo_directory_75  ?_
    refine e_Mo_directory_76 hm.1 (by decide) (c_Mo_fails hm) (kv ?_) xn
    rintro h2 ⟨hm2, f2⟩
    refine e_Mo_directory_79 (fun _ => ?_) (fun c1 => absurd c1 (by decide))
    exact e_Mo_directory_92 ⟨rfl, ⟨M, hm2, hss⟩, f2⟩
theorem c_Mo_copy (hs : msr h th s) : tv_Ct G mm_Mo_copy [.ref 497, .int x, .int y] h 0 0 (rn (fun h' => msr h' (nI (mcpy s x y).1) (mcpy s x y).2 ∧ fr mS h h')) := by
  obtain ⟨M, hm, hss⟩ := hs
  unfold mcpy
  have no : ¬ (it x ∧ it y) → tv_Ev G mm_Mo_copy 15 [some (.ref 497), some (.int x), some (.int y)] [.ref 497] h 0 0 (rn (fun h' => msr h' (nI (if it x ∧ it y then (0, st s y (gt s x)) else (1, s)).1) (if it x ∧ it y then (0, st s y (gt s x)) else (1, s)).2 ∧ fr mS h h')) := by
    intro hn
    rw [if_neg hn]
    refine e_Mo_copy_15  ?_
    refine e_Mo_copy_16  ?_
    refine e_Mo_copy_20  ?_
    refine e_Mo_copy_21  ?_
    refine e_Mo_copy_22 hm.1 (by decide) (c_Mo_fails hm) (kv ?_) xn
    rintro h2 ⟨hm2, f2⟩
    refine e_Mo_copy_25 (fun _ => ?_) (fun c1 => absurd c1 (by decide))
    exact e_Mo_copy_34 ⟨rfl, ⟨M, hm2, hss⟩, f2⟩
  refine tv_ct rfl (by decide +kernel) (by simp [Value.category]) (Nat.le_of_ble_eq_true rfl) ?_
  refine e_Mo_copy_0 rfl ?_
  refine e_Mo_copy_1 rfl ?_
  refine e_Mo_copy_2 (Nat.le_of_ble_eq_true rfl) c_Mo_isTree (kp ?_) xn
  by_cases hx : it x
  · rw [if_pos hx]
    refine e_Mo_copy_5 (fun c1 => absurd c1 (by decide)) (fun _ => ?_)
    refine e_Mo_copy_8 rfl ?_
    refine e_Mo_copy_9 (Nat.le_of_ble_eq_true rfl) c_Mo_isTree (kp ?_) xn
    by_cases hy : it y
    · rw [if_pos hy, if_pos (⟨hx, hy⟩ : it x ∧ it y)]
      refine e_Mo_copy_12 (fun _ => ?_) (fun c1 => absurd c1 (by decide))
      refine e_Mo_copy_19  ?_
      refine e_Mo_copy_20  ?_
      refine e_Mo_copy_21  ?_
      refine e_Mo_copy_22 hm.1 (by decide) (c_Mo_fails hm) (kv ?_) xn
      rintro h2 ⟨hm2, f2⟩
      refine e_Mo_copy_25 (fun c1 => absurd rfl c1) (fun _ => ?_)
      refine e_Mo_copy_28 rfl ?_
      refine e_Mo_copy_29 rfl ?_
      refine e_Mo_copy_30 rfl ?_
      have h1 := tn_lt x
      have h2' := tn_lt y
      rw [show x = nI (tn x) from tn_x hx, show y = nI (tn y) from tn_x hy]
      refine e_Mo_copy_31 hm2.1 (by decide) (c_Mo_become hm2 (a := tn x) (b := tn y) (by omega) (by omega) (hss.tree x)) (kn ?_) xn
      rintro h3 ⟨⟨M3, hm3, t3, k3⟩, f3⟩
      rw [← tn_x hx, ← tn_x hy]
      refine e_Mo_copy_34 ⟨rfl, ⟨M3, ?_, hss.upd t3 (k3.mono (fun _ q => Or.inl q) (fun _ q => Or.inl q))⟩, f2.tr f3⟩
      rw [lyb_st]
      exact hm3
    · rw [if_neg hy]
      refine e_Mo_copy_12 (fun c1 => absurd rfl c1) (fun _ => ?_)
      exact no (fun q => hy q.2)
  · rw [if_neg hx]
    refine e_Mo_copy_5 (fun _ => ?_) (fun c1 => absurd rfl c1)
    exact no (fun q => hx q.1)
theorem c_Mo_remove (hs : msr h th s) (ok : okX s) : tv_Ct G mm_Mo_remove [.ref 497, .int x] h 0 0 (rn (fun h' => msr h' (nI (mrem s x).1) (mrem s x).2 ∧ fr mS h h')) := by
  obtain ⟨M, hm, hss⟩ := hs
  unfold mrem
  by_cases hx : it x
  · rw [if_pos hx]
    have okt := ok.tree x
    have sp := ok.S.sm
    have ht2 := tn_lt x
    have hp := hss.2.2.1
    have hp2 := hp.2.1
    have htc := hss.tree x
    have bad : fx (gt s x) s.2.2.1 = none → tv_Ev G mm_Mo_remove 39 [some (.ref 497), some (.int x), some (.int 1)] [.int 0, .ref 497] h 0 0 (rn (fun h' => msr h' (nI (if fx (gt s x) s.2.2.1 = none then (2, s) else (0, st s x (dr s.2.2.1 true (gt s x)))).1) (if fx (gt s x) s.2.2.1 = none then (2, s) else (0, st s x (dr s.2.2.1 true (gt s x)))).2 ∧ fr mS h h')) := by
      intro hn
      rw [if_pos hn]
      refine e_Mo_remove_39  ?_
      refine e_Mo_remove_40  ?_
      refine e_Mo_remove_44  ?_
      refine e_Mo_remove_45 hm.1 (by decide) (c_Mo_fails hm) (kv ?_) xn
      rintro h2 ⟨hm2, f2⟩
      refine e_Mo_remove_48 (fun _ => ?_) (fun c1 => absurd c1 (by decide))
      exact e_Mo_remove_59 ⟨rfl, ⟨M, hm2, hss⟩, f2⟩
    refine tv_ct rfl (by decide +kernel) (by simp [Value.category]) (Nat.le_of_ble_eq_true rfl) ?_
    refine e_Mo_remove_0 rfl ?_
    refine e_Mo_remove_1 (by decide) c_Mo_isTree (kp ?_) xn
    rw [if_pos hx]
    refine e_Mo_remove_4 (Nat.le_of_ble_eq_true rfl) ?_
    refine e_Mo_remove_5 rfl ?_
    refine e_Mo_remove_6 rfl ?_
    refine e_Mo_remove_7 (fun _ => ?_) (fun c1 => absurd c1 (by decide))
    refine e_Mo_remove_14  ?_
    refine e_Mo_remove_15 rfl ?_
    refine e_Mo_remove_16 (fun c1 => absurd c1 (by decide)) (fun _ => ?_)
    refine e_Mo_remove_19 rfl ?_
    refine e_Mo_remove_20 hm.1 rfl ?_
    refine e_Mo_remove_23  ?_
    refine e_Mo_remove_25 (120) hm.a1 rfl (md (a := 1) (show 120 < 124 by omega)) mlen ?_
    rw [hp.1]
    refine e_Mo_remove_26 (fun c1 => ?_) (fun c1 => ?_)
    · have c1 : s.2.2.1.length = 0 := (nI_eq (b := 0) (by omega) (by decide)).mp c1
      exact bad (by rw [List.length_eq_zero_iff.mp c1]; exact fx_nil okt.1)
    · refine e_Mo_remove_29 rfl ?_
      refine e_Mo_remove_30 rfl ?_
      refine e_Mo_remove_31  ?_
      rw [tn_x hx]
      refine e_Mo_remove_33 hm.1 (Nat.le_of_ble_eq_true rfl) (c_Mo_find hm (t := tn x) (r := 120) (by omega) (by decide) htc hp (oks okt.1) okt.2.1 sp) (kp ?_) xn
      rw [← tn_x hx]
      by_cases g2 : fx (gt s x) s.2.2.1 = none
      · rw [show oxt (tn x) (fx (gt s x) s.2.2.1) = -1 from by rw [g2]; rfl]
        refine e_Mo_remove_36 (fun c2 => absurd c2 (show ¬ (0 : Int32) ≤ -1 by decide)) (fun _ => ?_)
        exact bad g2
      · have hge : 0 ≤ oxt (tn x) (fx (gt s x) s.2.2.1) := Int32.not_lt.mp (fun e => g2 ((oxt_neg (by omega) (fx_40 htc)).mp e))
        rw [if_neg g2]
        refine e_Mo_remove_36 (fun _ => ?_) (fun c2 => absurd hge c2)
        refine e_Mo_remove_43  ?_
        refine e_Mo_remove_44  ?_
        refine e_Mo_remove_45 hm.1 (by decide) (c_Mo_fails hm) (kv ?_) xn
        rintro h2 ⟨hm2, f2⟩
        refine e_Mo_remove_48 (fun c1 => absurd rfl c1) (fun _ => ?_)
        refine e_Mo_remove_51 rfl ?_
        refine e_Mo_remove_52 rfl ?_
        refine e_Mo_remove_53  ?_
        refine e_Mo_remove_55  ?_
        rw [tn_x hx]
        refine e_Mo_remove_56 hm2.1 (by decide) (c_Mo_clear true hm2 (t := tn x) (r := 120) (by omega) (by decide) htc hp (oks okt.1) sp) (kn ?_) xn
        rintro h3 ⟨⟨M3, hm3, t3, k3⟩, f3⟩
        rw [← tn_x hx]
        refine e_Mo_remove_59 ⟨rfl, ⟨M3, ?_, hss.upd t3 (k3.mono (by rintro r (q | q); exact Or.inl q; exact Or.inr ⟨by omega, by omega⟩) (fun _ q => Or.inl q))⟩, f2.tr f3⟩
        rw [lyb_st]
        exact hm3
  · rw [if_neg hx]
    refine tv_ct rfl (by decide +kernel) (by simp [Value.category]) (Nat.le_of_ble_eq_true rfl) ?_
    refine e_Mo_remove_0 rfl ?_
    refine e_Mo_remove_1 (by decide) c_Mo_isTree (kp ?_) xn
    rw [if_neg hx]
    refine e_Mo_remove_4 (Nat.le_of_ble_eq_true rfl) ?_
    refine e_Mo_remove_5 rfl ?_
    refine e_Mo_remove_6 rfl ?_
    refine e_Mo_remove_7 (fun c1 => absurd rfl c1) (fun _ => ?_)
    refine e_Mo_remove_10  ?_
    refine e_Mo_remove_11  ?_
    refine e_Mo_remove_15 rfl ?_
    refine e_Mo_remove_16 (fun _ => ?_) (fun c1 => absurd rfl c1)
    refine e_Mo_remove_43  ?_
    refine e_Mo_remove_44  ?_
    refine e_Mo_remove_45 hm.1 (by decide) (c_Mo_fails hm) (kv ?_) xn
    rintro h2 ⟨hm2, f2⟩
    refine e_Mo_remove_48 (fun _ => ?_) (fun c1 => absurd c1 (by decide))
    exact e_Mo_remove_59 ⟨rfl, ⟨M, hm2, hss⟩, f2⟩
end
