/-! TreeChanges: what it is, what its methods do -/
/-- both trees, the path, the layer's items -/
abbrev tT : Type := List tE × List tE × List Nat × List tI
def okI (x : tI) : Prop := 1 ≤ x.1 ∧ x.1 ≤ 4 ∧ wf x.2.1 = true ∧ x.2.1.length ≤ 19 ∧ x.2.2.length ≤ 16
def okS (s : tT) : Prop := (∀ f ∈ s.1, okE f) ∧ (∀ f ∈ s.2.1, okE f) ∧ (s.2.2.1 = [] ∨ wf s.2.2.1 = true) ∧ ∀ x ∈ s.2.2.2, okI x
def tcs (h : tv_H) (s : tT) : Prop := h[0]? = some (4, [.ref 1, .ref 163, .ref 325, .ref 487, .ref 489, .ref 491, .ref 495]) ∧ tr h 1 s.1 ∧ tr h 163 s.2.1 ∧ (∃ es, tr h 325 es) ∧ pa h 487 s.2.2.1 ∧ (∃ q, pa h 489 q) ∧ (∃ q k cs, en h 491 q k cs) ∧ la h 495 (s.2.2.2.flatMap itb) s.2.2.2.length
abbrev cS : Nat → Prop := fun b => b < 497
abbrev it (x : Int32) : Prop := x = 0 ∨ x = 1
def ti (x : Int32) : Nat := if x = 0 then 1 else 163
def gt (s : tT) (x : Int32) : List tE := if x = 0 then s.1 else s.2.1
def st (s : tT) (x : Int32) (es : List tE) : tT := if x = 0 then (es, s.2.1, s.2.2) else (s.1, es, s.2.2)
theorem ti_or (x : Int32) : ti x = 1 ∨ ti x = 163 := by
  unfold ti
  split
  · exact Or.inl rfl
  · exact Or.inr rfl
theorem tcs.tree {h : tv_H} {s : tT} (hs : tcs h s) (x : Int32) : tr h (ti x) (gt s x) := by
  unfold ti gt
  split
  · exact hs.2.1
  · exact hs.2.2.1
theorem okS.tree {s : tT} (hs : okS s) (x : Int32) : ∀ f ∈ gt s x, okE f := by
  unfold gt
  split
  · exact hs.1
  · exact hs.2.1
theorem okS.sm {s : tT} (hs : okS s) : sm s.2.2.1 := by
  rcases hs.2.2.1 with h | h
  · rw [h]; intro c hc; cases hc
  · exact wf_sm h
theorem tcs.upd {h h' : tv_H} {s : tT} (hs : tcs h s) {x : Int32} {es : List tE} (ht : tr h' (ti x) es) (hf : fr (tS (ti x)) h h') : tcs h' (st s x es) := by
  obtain ⟨h1, h2, h3, ⟨u, h4⟩, h5, ⟨q, h6⟩, ⟨q7, k7, c7, h7⟩, h8⟩ := hs
  unfold ti st at *
  split
  · rename_i hx
    rw [if_pos hx] at ht hf
    exact ⟨(hf.2 0 (fun w => by have := w.1; omega)).trans h1, ht, h3.kept hf (fun b hb w => by have := hb.1; have := w.2; omega), ⟨u, h4.kept hf (fun b hb w => by have := hb.1; have := w.2; omega)⟩, h5.kept_fr hf (fun w => by have := w.2; omega) (fun w => by have := w.2; omega), ⟨q, h6.kept_fr hf (fun w => by have := w.2; omega) (fun w => by have := w.2; omega)⟩, ⟨q7, k7, c7, h7.kept hf (fun b hb w => by have := hb.1; have := w.2; omega)⟩, h8.kept hf (fun w => by have := w.2; omega) (fun w => by have := w.2; omega)⟩
  · rename_i hx
    rw [if_neg hx] at ht hf
    exact ⟨(hf.2 0 (fun w => by have := w.1; omega)).trans h1, h2.kept hf (fun b hb w => by have := hb.2; have := w.1; omega), ht, ⟨u, h4.kept hf (fun b hb w => by have := hb.1; have := w.2; omega)⟩, h5.kept_fr hf (fun w => by have := w.2; omega) (fun w => by have := w.2; omega), ⟨q, h6.kept_fr hf (fun w => by have := w.2; omega) (fun w => by have := w.2; omega)⟩, ⟨q7, k7, c7, h7.kept hf (fun b hb w => by have := hb.1; have := w.2; omega)⟩, h8.kept hf (fun w => by have := w.2; omega) (fun w => by have := w.2; omega)⟩
theorem tcs.item {h h' : tv_H} {s : tT} (hs : tcs h s) {q : List Nat} {k : Int32} {cs : List Nat} (he : en h' 491 q k cs) (hf : fr (eS 491) h h') : tcs h' s := by
  obtain ⟨h1, h2, h3, ⟨u, h4⟩, h5, ⟨q, h6⟩, -, h8⟩ := hs
  exact ⟨(hf.2 0 (fun w => by have := w.1; omega)).trans h1, h2.kept hf (fun b hb w => by have := hb.2; have := w.1; omega), h3.kept hf (fun b hb w => by have := hb.2; have := w.1; omega), ⟨u, h4.kept hf (fun b hb w => by have := hb.2; have := w.1; omega)⟩, h5.kept_fr hf (fun w => by have := w.1; omega) (fun w => by have := w.1; omega), ⟨q, h6.kept_fr hf (fun w => by have := w.1; omega) (fun w => by have := w.1; omega)⟩, ⟨_, _, _, he⟩, h8.kept hf (fun w => by have := w.2; omega) (fun w => by have := w.2; omega)⟩
theorem tcs.other {h h' : tv_H} {s : tT} (hs : tcs h s) {q : List Nat} (he : pa h' 489 q) (hf : fr (pS 489) h h') : tcs h' s := by
  obtain ⟨h1, h2, h3, ⟨u, h4⟩, h5, -, ⟨q7, k7, c7, h7⟩, h8⟩ := hs
  exact ⟨(hf.2 0 (by rintro (w | w) <;> omega)).trans h1, h2.kept hf (fun b hb => by have := hb.2; rintro (w | w) <;> omega), h3.kept hf (fun b hb => by have := hb.2; rintro (w | w) <;> omega), ⟨u, h4.kept hf (fun b hb => by have := hb.2; rintro (w | w) <;> omega)⟩, h5.kept_fr hf (by rintro (w | w) <;> omega) (by rintro (w | w) <;> omega), ⟨q, he⟩, ⟨q7, k7, c7, h7.kept hf (fun b hb => by have := hb.1; rintro (w | w) <;> omega)⟩, h8.kept hf (by rintro (w | w) <;> omega) (by rintro (w | w) <;> omega)⟩
theorem tcs.path {h h' : tv_H} {s : tT} (hs : tcs h s) {q : List Nat} (he : pa h' 487 q) (hf : fr (pS 487) h h') : tcs h' (s.1, s.2.1, q, s.2.2.2) := by
  obtain ⟨h1, h2, h3, ⟨u, h4⟩, -, ⟨q6, h6⟩, ⟨q7, k7, c7, h7⟩, h8⟩ := hs
  exact ⟨(hf.2 0 (by rintro (w | w) <;> omega)).trans h1, h2.kept hf (fun b hb => by have := hb.2; rintro (w | w) <;> omega), h3.kept hf (fun b hb => by have := hb.2; rintro (w | w) <;> omega), ⟨u, h4.kept hf (fun b hb => by have := hb.2; rintro (w | w) <;> omega)⟩, he, ⟨q6, h6.kept_fr hf (by rintro (w | w) <;> omega) (by rintro (w | w) <;> omega)⟩, ⟨q7, k7, c7, h7.kept hf (fun b hb => by have := hb.1; rintro (w | w) <;> omega)⟩, h8.kept hf (by rintro (w | w) <;> omega) (by rintro (w | w) <;> omega)⟩
theorem tcs.trial {h h' : tv_H} {s : tT} (hs : tcs h s) {es : List tE} (he : tr h' 325 es) (hf : fr (tS 325) h h') : tcs h' s := by
  obtain ⟨h1, h2, h3, -, h5, ⟨q6, h6⟩, ⟨q7, k7, c7, h7⟩, h8⟩ := hs
  exact ⟨(hf.2 0 (fun w => by have := w.1; omega)).trans h1, h2.kept hf (fun b hb w => by have := hb.2; have := w.1; omega), h3.kept hf (fun b hb w => by have := hb.2; have := w.1; omega), ⟨es, he⟩, h5.kept_fr hf (fun w => by have := w.2; omega) (fun w => by have := w.2; omega), ⟨q6, h6.kept_fr hf (fun w => by have := w.2; omega) (fun w => by have := w.2; omega)⟩, ⟨q7, k7, c7, h7.kept hf (fun b hb w => by have := hb.1; have := w.2; omega)⟩, h8.kept hf (fun w => by have := w.2; omega) (fun w => by have := w.2; omega)⟩
theorem tcs.layer {h h' : tv_H} {s : tT} (hs : tcs h s) {its : List tI} (he : la h' 495 (its.flatMap itb) its.length) (hf : fr (pS 495) h h') : tcs h' (s.1, s.2.1, s.2.2.1, its) := by
  obtain ⟨h1, h2, h3, ⟨u, h4⟩, h5, ⟨q6, h6⟩, ⟨q7, k7, c7, h7⟩, -⟩ := hs
  exact ⟨(hf.2 0 (by rintro (w | w) <;> omega)).trans h1, h2.kept hf (fun b hb => by have := hb.2; rintro (w | w) <;> omega), h3.kept hf (fun b hb => by have := hb.2; rintro (w | w) <;> omega), ⟨u, h4.kept hf (fun b hb => by have := hb.2; rintro (w | w) <;> omega)⟩, h5.kept_fr hf (by rintro (w | w) <;> omega) (by rintro (w | w) <;> omega), ⟨q6, h6.kept_fr hf (by rintro (w | w) <;> omega) (by rintro (w | w) <;> omega)⟩, ⟨q7, k7, c7, h7.kept hf (fun b hb => by have := hb.2; rintro (w | w) <;> omega)⟩, he⟩
theorem tS_c {x : Int32} : ∀ b, tS (ti x) b → cS b := fun b hb => by
  have := hb.2
  rcases ti_or x with w | w <;> rw [w] at this <;> show b < 497 <;> omega
theorem kx_m1 {es : List tE} {q : List Nat} (ok : ∀ f ∈ es, okE f) : kx es q = -1 ↔ fx es q = none := by
  constructor
  · intro h
    cases hf : fx es q with
    | none => rfl
    | some i =>
      obtain ⟨e, he, -⟩ := fx_lt hf
      rw [kx_at hf he] at h
      rcases (ok e (List.mem_of_getElem? he)).2.1 with ⟨w, -⟩ | w <;> rw [w] at h <;> exact absurd h (by decide)
  · exact kx_no
/-- what throws, by the number of the reference -/
def eX (k : Nat) : String := if k = 1 then "java/lang/IllegalArgumentException" else if k = 2 then "java/lang/IllegalStateException" else "java/lang/UnsupportedOperationException"
def rc (E : Nat → String) (k : Nat) (v : Option Value) (P : tv_H → Prop) : tv_R → tv_H → Prop := fun r h' => r = (if k = 0 then .inl v else .inr (E k)) ∧ P h'
def mdir (s : tT) (x : Int32) : Nat × tT := if it x then (if s.2.2.1 = [] ∨ fx (gt s x) s.2.2.1 ≠ none ∨ ¬ hpl (gt s x) s.2.2.1 then (2, s) else if (gt s x).length = 40 then (3, s) else (0, st s x (pu (gt s x) (s.2.2.1, 1, [])))) else (1, s)
def mfil (s : tT) (x w : Int32) : Nat × tT := if it x then (if s.2.2.1 = [] ∨ ¬ hpl (gt s x) s.2.2.1 ∨ kx (gt s x) s.2.2.1 = 1 then (2, s) else if fx (gt s x) s.2.2.1 = none ∧ (gt s x).length = 40 then (3, s) else (0, st s x (pu (gt s x) (s.2.2.1, 2, wbk w 4)))) else (1, s)
section
variable {G : tv_G} {h h' : tv_H} {s : tT} {x y w : Int32} {c z : Nat}
theorem rt {E : String} {P : tv_H → Prop} {X : Option Value → tv_H → Prop} : ∀ v h', rr (.inr E) P (.inl v) h' → X v h' := fun _ _ q => nomatch q.1
theorem xo {k : tv_M} {pc : Nat} {ls : List (Option Value)} {Q : tv_R → tv_H → Prop} {E0 : String} (hx : tv_Xv G k pc ls h c z Q E0) : ∀ E h', rr (.inr E0) (fun h' => h' = h) (.inr E) h' → tv_Xv G k pc ls h' c z Q E := by
  rintro E h' ⟨e, rfl⟩
  cases e
  exact hx
theorem c_Tc_treeOf (hs : tcs h s) (hx : it x) : tv_Ct G mm_Tc_treeOf [.ref 0, .int x] h 0 0 (rv (.ref (ti x)) (fun h' => h' = h)) := by
  refine tv_ct rfl (by decide +kernel) (by simp [Value.category]) (Nat.le_of_ble_eq_true rfl) ?_
  refine e_Tc_treeOf_0 rfl ?_
  have main : tv_Ev G mm_Tc_treeOf 19 [some (.ref 0), some (.int x)] [] h 0 0 (rv (.ref (ti x)) (fun h' => h' = h)) := by
    refine e_Tc_treeOf_19 rfl ?_
    refine e_Tc_treeOf_20 (fun c1 => ?_) (fun c1 => ?_)
    · refine e_Tc_treeOf_30 rfl ?_
      refine e_Tc_treeOf_31 hs.1 rfl ?_
      exact e_Tc_treeOf_34 ⟨by unfold ti; rw [if_neg c1], rfl⟩
    · refine e_Tc_treeOf_23 rfl ?_
      refine e_Tc_treeOf_24 hs.1 rfl ?_
      refine e_Tc_treeOf_27  ?_
      exact e_Tc_treeOf_34 ⟨by unfold ti; rw [if_pos c1], rfl⟩
  refine e_Tc_treeOf_1 (fun _ => main) (fun c1 => ?_)
  refine e_Tc_treeOf_4 rfl ?_
  refine e_Tc_treeOf_5  ?_
  refine e_Tc_treeOf_6 (fun _ => main) (fun c2 => ?_)
  rcases hx with w | w
  · exact absurd w c1
  · exact absurd w c2
theorem c_Tc_treeOf_no (hx : ¬ it x) : tv_Ct G mm_Tc_treeOf [.ref 0, .int x] h 1 6 (rr (.inr (eX 1)) (fun h' => h' = h)) := by
  refine tv_ct rfl (by decide +kernel) (by simp [Value.category]) (Nat.le_of_ble_eq_true rfl) ?_
  refine e_Tc_treeOf_0 rfl ?_
  refine e_Tc_treeOf_1 (fun c1 => absurd (Or.inl c1) hx) (fun c1 => ?_)
  refine e_Tc_treeOf_4 rfl ?_
  refine e_Tc_treeOf_5  ?_
  refine e_Tc_treeOf_6 (fun c1 => absurd (Or.inr c1) hx) (fun c2 => ?_)
  exact e_Tc_treeOf_9 (c := 0) (z := 0) ⟨rfl, rfl⟩
theorem c_Tc_path (hs : tcs h s) (a b d : Int32) : tv_Ct G mm_Tc_path [.ref 0, .int a, .int b, .int d] h 0 0 (rv (.int (if wf (w3 a b d) = true then 1 else 0)) (fun h' => tcs h' (s.1, s.2.1, w3p a b d, s.2.2.2) ∧ fr cS h h')) := by
  obtain ⟨_, i1, -⟩ := id hs.2.2.2.2.1
  refine tv_ct rfl (by decide +kernel) (by simp [Value.category]) (Nat.le_of_ble_eq_true rfl) ?_
  refine e_Tc_path_0 rfl ?_
  refine e_Tc_path_1 hs.1 rfl ?_
  refine e_Tc_path_4 rfl ?_
  refine e_Tc_path_5 rfl ?_
  refine e_Tc_path_6 rfl ?_
  refine e_Tc_path_7 i1 (by decide) (c_Pa_readSigns hs.2.2.2.2.1 a b d) (kv ?_) xn
  rintro h' ⟨p', f'⟩
  refine e_Tc_path_10 ?_ ⟨rfl, hs.path p' f', f'.mono (by rintro b (w | w) <;> show b < 497 <;> omega)⟩
  split
  · exact Or.inr rfl
  · exact Or.inl rfl
theorem c_Tc_directory (hs : tcs h s) (ok : okS s) : tv_Ct G mm_Tc_directory [.ref 0, .int x] h 1 6 (rc eX (mdir s x).1 none (fun h' => tcs h' (mdir s x).2 ∧ fr cS h h')) := by
  unfold mdir
  by_cases hx : it x
  · rw [if_pos hx]
    have ht := hs.tree x
    have okt := ok.tree x
    have hp := hs.2.2.2.2.1
    have sp := ok.sm
    obtain ⟨_, i1, -⟩ := id hp
    obtain ⟨rs, t1, -⟩ := ht.row
    refine tv_ct rfl (by decide +kernel) (by simp [Value.category]) (Nat.le_of_ble_eq_true rfl) ?_
    refine e_Tc_directory_0 rfl ?_
    refine e_Tc_directory_1 rfl ?_
    refine e_Tc_directory_2 (mc' := 0) (ms' := 0) hs.1 (by decide) (c_Tc_treeOf hs hx) (kp ?_) xn
    have bad : (s.2.2.1 = [] ∨ fx (gt s x) s.2.2.1 ≠ none ∨ ¬ hpl (gt s x) s.2.2.1) → ∀ ls, tv_Ev G mm_Tc_directory 39 ls [] h 1 6 (rc eX (if s.2.2.1 = [] ∨ fx (gt s x) s.2.2.1 ≠ none ∨ ¬ hpl (gt s x) s.2.2.1 then (2, s) else if (gt s x).length = 40 then (3, s) else (0, st s x (pu (gt s x) (s.2.2.1, 1, [])))).1 none (fun h' => tcs h' (if s.2.2.1 = [] ∨ fx (gt s x) s.2.2.1 ≠ none ∨ ¬ hpl (gt s x) s.2.2.1 then (2, s) else if (gt s x).length = 40 then (3, s) else (0, st s x (pu (gt s x) (s.2.2.1, 1, [])))).2 ∧ fr cS h h')) := by
      intro hb ls
      rw [if_pos hb]
      exact e_Tc_directory_39 (c := 0) (z := 0) ⟨rfl, hs, fr.rf⟩
    refine e_Tc_directory_5 (Nat.le_of_ble_eq_true rfl) ?_
    refine e_Tc_directory_6 rfl ?_
    refine e_Tc_directory_7 hs.1 rfl ?_
    refine e_Tc_directory_10 i1 (by decide) (c_Pa_isNone hp) (kp ?_) xn
    by_cases g1 : s.2.2.1 = []
    · rw [if_pos g1]
      refine e_Tc_directory_13 (fun _ => ?_) (fun c1 => absurd c1 (by decide))
      exact bad (Or.inl g1) _
    rw [if_neg g1]
    refine e_Tc_directory_13 (fun c1 => absurd rfl c1) (fun _ => ?_)
    refine e_Tc_directory_16 rfl ?_
    refine e_Tc_directory_17 rfl ?_
    refine e_Tc_directory_18 hs.1 rfl ?_
    refine e_Tc_directory_21 t1 (by decide) (c_Tr_kindOf ht (oks okt) hp sp) (kp ?_) xn
    refine e_Tc_directory_24  ?_
    refine e_Tc_directory_25 (fun c1 => bad (Or.inr (Or.inl (fun q => c1 ((kx_m1 okt).mpr q)))) _) (fun c1 => ?_)
    have g2 := (kx_m1 okt).mp c1
    refine e_Tc_directory_28 rfl ?_
    refine e_Tc_directory_29 rfl ?_
    refine e_Tc_directory_30 hs.1 rfl ?_
    refine e_Tc_directory_33 t1 (by decide) (c_Tr_hasPlaceFor ht (oks okt) hp sp g1) (kp ?_) xn
    by_cases g3 : hpl (gt s x) s.2.2.1
    · rw [if_pos g3]
      refine e_Tc_directory_36 (fun _ => ?_) (fun c1 => absurd c1 (by decide))
      rw [if_neg (show ¬ (s.2.2.1 = [] ∨ fx (gt s x) s.2.2.1 ≠ none ∨ ¬ hpl (gt s x) s.2.2.1) from by rintro (q | q | q); exact g1 q; exact q g2; exact q g3)]
      refine e_Tc_directory_49 rfl ?_
      refine e_Tc_directory_50 t1 (by decide) (c_Tr_isFull ht) (kp ?_) xn
      by_cases g4 : (gt s x).length = 40
      · rw [if_pos g4, if_pos g4]
        refine e_Tc_directory_53 (fun c1 => absurd c1 (by decide)) (fun _ => ?_)
        exact e_Tc_directory_56 (c := 0) (z := 0) ⟨rfl, hs, fr.rf⟩
      · rw [if_neg g4, if_neg g4]
        refine e_Tc_directory_53 (fun _ => ?_) (fun c1 => absurd rfl c1)
        obtain ⟨q7, k7, c7, h7⟩ := hs.2.2.2.2.2.2.1
        refine e_Tc_directory_66 rfl ?_
        refine e_Tc_directory_67 hs.1 rfl ?_
        refine e_Tc_directory_70 rfl ?_
        refine e_Tc_directory_71 hs.1 rfl ?_
        refine e_Tc_directory_74  ?_
        refine e_Tc_directory_75 h7.1 (by decide) (c_En_begin h7 hp (by omega)) (kn ?_) xn
        rintro h2 ⟨e2, f2⟩
        have s2 := hs.item e2 f2
        obtain ⟨_, t2, -⟩ := (s2.tree x).row
        refine e_Tc_directory_78 rfl ?_
        refine e_Tc_directory_79 rfl ?_
        refine e_Tc_directory_80 s2.1 rfl ?_
        refine e_Tc_directory_83 t2 (by decide) (c_Tr_put (s2.tree x) (oks okt) e2 sp (fun d hd w => by have := hd.1; have := tS_c d w; rcases ti_or x with g | g <;> rw [g] at w <;> have := w.2 <;> omega)) (kv ?_) xn
        rintro h3 ⟨t3, f3⟩
        refine e_Tc_directory_86 rfl ?_
        exact e_Tc_directory_87 ⟨rfl, s2.upd t3 f3, (f2.mono (fun b hb => by have := hb.2; show b < 497; omega)).tr (f3.mono tS_c)⟩
    · rw [if_neg g3]
      refine e_Tc_directory_36 (fun c1 => absurd rfl c1) (fun _ => ?_)
      exact bad (Or.inr (Or.inr g3)) _
  · rw [if_neg hx]
    refine tv_ct rfl (by decide +kernel) (by simp [Value.category]) (Nat.le_of_ble_eq_true rfl) ?_
    refine e_Tc_directory_0 rfl ?_
    refine e_Tc_directory_1 rfl ?_
    refine e_Tc_directory_2 (c := 0) (z := 0) (mc' := 1) (ms' := 6) hs.1 (by decide) (c_Tc_treeOf_no hx) rt (xo (xv_out rfl ⟨rfl, hs, fr.rf⟩))
end
