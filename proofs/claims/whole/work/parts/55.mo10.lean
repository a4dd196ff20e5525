/-! the reference: changes -/
/-- the items that are told: how long, and what they are -/
theorem gon_ok {fs : List tE} {em : Option (List Nat)} {f : tE} (of : okE f) : ((gon fs em f).flatMap itb).length ≤ 23 ∧ ∀ x ∈ gon fs em f, okI x := by
  refine ⟨gon_len (wf_len of.1), fun x hx => ?_⟩
  unfold gon at hx
  split at hx
  · cases hx
  · rw [List.mem_singleton.mp hx]
    exact ⟨show 1 ≤ 3 by decide, show 3 ≤ 4 by decide, of.1, wf_len of.1, Nat.zero_le _⟩
theorem itf_ok {g : tE} (og : okE g) : okI (itf g) := by
  refine ⟨?_, ?_, og.1, wf_len og.1, og.2.2.1⟩
  · unfold itf
    show 1 ≤ if g.2.1 = 1 then 1 else 2
    split <;> omega
  · unfold itf
    show (if g.2.1 = 1 then 1 else 2) ≤ 4
    split <;> omega
theorem kpt_ok {f g : tE} {y : Bool} (og : okE g) : ((kpt f g y).flatMap itb).length ≤ 39 ∧ ∀ x ∈ kpt f g y, okI x := by
  refine ⟨kpt_len (wf_len og.1) og.2.2.1, fun x hx => ?_⟩
  unfold kpt at hx
  split at hx
  · rw [List.mem_singleton.mp hx]
    exact ⟨show 1 ≤ 4 by decide, show 4 ≤ 4 by decide, og.1, wf_len og.1, Nat.zero_le _⟩
  · split at hx
    · cases hx
    · rw [List.mem_singleton.mp hx]
      exact itf_ok og
theorem tll_ok (fs : List tE) : ∀ n (es' fs' : List tE) em, (∀ f ∈ es', okE f) → (∀ f ∈ fs', okE f) → ((tll fs n es' fs' em).flatMap itb).length ≤ 23 * es'.length + 39 * fs'.length ∧ ∀ x ∈ tll fs n es' fs' em, okI x := by
  intro n
  induction n with
  | zero => intro es' fs' em _ _; exact ⟨Nat.zero_le _, fun x hx => by cases hx⟩
  | succ n ih =>
    intro es' fs' em h1 h2
    have cat : ∀ {I J : List tI} {a b : Nat}, (I.flatMap itb).length ≤ a → (∀ x ∈ I, okI x) → (J.flatMap itb).length ≤ b → (∀ x ∈ J, okI x) → ((I ++ J).flatMap itb).length ≤ a + b ∧ ∀ x ∈ I ++ J, okI x := by
      intro I J a b q1 q2 q3 q4
      refine ⟨by rw [List.flatMap_append, List.length_append]; omega, fun x hx => ?_⟩
      rcases List.mem_append.mp hx with w | w
      · exact q2 x w
      · exact q4 x w
    have new : ∀ {g : tE} {J : List tI} {b : Nat}, okE g → (J.flatMap itb).length ≤ b → (∀ x ∈ J, okI x) → ((itf g :: J).flatMap itb).length ≤ 39 + b ∧ ∀ x ∈ itf g :: J, okI x := by
      intro g J b og q3 q4
      exact cat (I := [itf g]) (itf_len (wf_len og.1) og.2.2.1) (fun x hx => by rw [List.mem_singleton.mp hx]; exact itf_ok og) q3 q4
    cases es' with
    | nil =>
      cases fs' with
      | nil => exact ⟨Nat.zero_le _, fun x hx => by cases hx⟩
      | cons g gs =>
        rw [tll]
        have i1 := ih [] gs em h1 (fun f hf => h2 f (List.mem_cons_of_mem _ hf))
        have := new (h2 g List.mem_cons_self) i1.1 i1.2
        refine ⟨?_, this.2⟩
        have := this.1
        rw [List.length_cons]
        omega
    | cons f r =>
      cases fs' with
      | nil =>
        rw [tll]
        have i1 := ih r [] em (fun f hf => h1 f (List.mem_cons_of_mem _ hf)) h2
        have g1 := gon_ok (fs := fs) (em := em) (h1 f List.mem_cons_self)
        have := cat g1.1 g1.2 i1.1 i1.2
        refine ⟨?_, this.2⟩
        have := this.1
        rw [List.length_cons]
        omega
      | cons g gs =>
        rw [tll]
        split
        · have i1 := ih r (g :: gs) em (fun f hf => h1 f (List.mem_cons_of_mem _ hf)) h2
          have g1 := gon_ok (fs := fs) (em := em) (h1 f List.mem_cons_self)
          have := cat g1.1 g1.2 i1.1 i1.2
          refine ⟨?_, this.2⟩
          have := this.1
          rw [List.length_cons (as := r)]
          omega
        · split
          · have i1 := ih r gs (if emt f g r fs then some f.1 else em) (fun f hf => h1 f (List.mem_cons_of_mem _ hf)) (fun f hf => h2 f (List.mem_cons_of_mem _ hf))
            have g1 := kpt_ok (f := f) (y := decide (emt f g r fs)) (h2 g List.mem_cons_self)
            have := cat g1.1 g1.2 i1.1 i1.2
            refine ⟨?_, this.2⟩
            have := this.1
            rw [List.length_cons, List.length_cons]
            omega
          · have i1 := ih (f :: r) gs em h1 (fun f hf => h2 f (List.mem_cons_of_mem _ hf))
            have := new (h2 g List.mem_cons_self) i1.1 i1.2
            refine ⟨?_, this.2⟩
            have := this.1
            rw [List.length_cons (as := gs)]
            omega
/-- i entries of the one and j of the other tree are merged -/
def mg (es fs : List tE) (i j : Nat) : Prop := (∀ k x n y, k < i → es[k]? = some x → j ≤ n → fs[n]? = some y → x.1 < y.1) ∧ ∀ n y k x, n < j → fs[n]? = some y → i ≤ k → es[k]? = some x → y.1 < x.1
section
variable {es fs : List tE} {i j : Nat} {f g : tE}
theorem ge_idx (hs : srt es) {k : Nat} {x : tE} (hi : es[i]? = some f) (hk : es[k]? = some x) (h : i ≤ k) : f.1 = x.1 ∨ f.1 < x.1 := by
  rcases Nat.lt_or_ge i k with w | w
  · exact Or.inr (idx_srt hs hi hk w)
  · have : i = k := by omega
    subst this
    rw [hi] at hk
    exact Or.inl (by rw [Option.some.inj hk])
/-- f comes before all that is left of the other tree -/
theorem mg_old (hf : srt fs) (hm : mg es fs i j) (hi : es[i]? = some f) (hlt : ∀ y, fs[j]? = some y → f.1 < y.1) : fx fs f.1 = none ∧ mg es fs (i + 1) j := by
  have hall : ∀ n y, j ≤ n → fs[n]? = some y → f.1 < y.1 := by
    intro n y hn hy
    have hl := (List.getElem?_eq_some_iff.mp hy).1
    have hjj : fs[j]? = some fs[j] := List.getElem?_eq_getElem (by omega)
    have h1 := hlt _ hjj
    rcases ge_idx hf hjj hy hn with w | w
    · rw [← w]; exact h1
    · exact lt_tr h1 w
  refine ⟨(fx_none hf).mpr (fun y hy e => ?_), fun k x n y hk hx hn hy => ?_, fun n y k x hn hy hk hx => hm.2 n y k x hn hy (by omega) hx⟩
  · obtain ⟨n, hn⟩ := List.mem_iff_getElem?.mp hy
    rcases Nat.lt_or_ge n j with w | w
    · have := hm.2 n y i f w hn (Nat.le_refl _) hi
      rw [e] at this
      exact lt_irr this
    · have := hall n y w hn
      rw [e] at this
      exact lt_irr this
  · rcases Nat.lt_or_ge k i with w | w
    · exact hm.1 k x n y w hx hn hy
    · have : k = i := by omega
      subst this
      rw [hi] at hx
      rw [← Option.some.inj hx]
      exact hall n y hn hy
theorem mg_new (he : srt es) (hm : mg es fs i j) (hj : fs[j]? = some g) (hlt : ∀ x, es[i]? = some x → g.1 < x.1) : fx es g.1 = none ∧ mg es fs i (j + 1) := by
  have hall : ∀ n y, i ≤ n → es[n]? = some y → g.1 < y.1 := by
    intro n y hn hy
    have hl := (List.getElem?_eq_some_iff.mp hy).1
    have hjj : es[i]? = some es[i] := List.getElem?_eq_getElem (by omega)
    have h1 := hlt _ hjj
    rcases ge_idx he hjj hy hn with w | w
    · rw [← w]; exact h1
    · exact lt_tr h1 w
  refine ⟨(fx_none he).mpr (fun y hy e => ?_), fun k x n y hk hx hn hy => hm.1 k x n y hk hx (by omega) hy, fun n y k x hn hy hk hx => ?_⟩
  · obtain ⟨n, hn⟩ := List.mem_iff_getElem?.mp hy
    rcases Nat.lt_or_ge n i with w | w
    · have := hm.1 n y j g w hn (Nat.le_refl _) hj
      rw [e] at this
      exact lt_irr this
    · have := hall n y w hn
      rw [e] at this
      exact lt_irr this
  · rcases Nat.lt_or_ge n j with w | w
    · exact hm.2 n y k x w hy hk hx
    · have : n = j := by omega
      subst this
      rw [hj] at hy
      rw [← Option.some.inj hy]
      exact hall k x hk hx
theorem mg_both (he : srt es) (hf : srt fs) (hm : mg es fs i j) (hi : es[i]? = some f) (hj : fs[j]? = some g) (e : f.1 = g.1) : mg es fs (i + 1) (j + 1) := by
  refine ⟨fun k x n y hk hx hn hy => ?_, fun n y k x hn hy hk hx => ?_⟩
  · rcases Nat.lt_or_ge k i with w | w
    · exact hm.1 k x n y w hx (by omega) hy
    · have : k = i := by omega
      subst this
      rw [hi] at hx
      rw [← Option.some.inj hx, e]
      exact idx_srt hf hj hy (by omega)
  · rcases Nat.lt_or_ge n j with w | w
    · exact hm.2 n y k x w hy (by omega) hx
    · have : n = j := by omega
      subst this
      rw [hj] at hy
      rw [← Option.some.inj hy, ← e]
      exact idx_srt he hi hx (by omega)
theorem cms_new (h : fx es g.1 = none) : cms es fs g = [itf g] := by
  unfold cms
  rw [h]
theorem cms_kpt (he : okT es) (hf : okT fs) (hi : es[i]? = some f) (hg : g ∈ fs) (e : f.1 = g.1) : cms es fs g = kpt f g (decide (emt f g (es.drop (i + 1)) fs)) := by
  have hfx := fx_of he.2.1 hi e
  have hes : es = es.take i ++ f :: es.drop (i + 1) := by rw [← drop_g hi, List.take_append_drop]
  have hE := emt_rE he hf hes hg e
  unfold cms kpt
  rw [hfx]
  simp only [hi]
  by_cases h : emt f g (es.drop (i + 1)) fs
  · have of := he.e (List.mem_of_getElem? hi)
    have og := hf.e hg
    have h1 : f.2 = g.2 := by
      refine Prod.ext (h.1.trans h.2.1.symm) ?_
      rcases of.2.1 with ⟨-, w⟩ | w
      · rcases og.2.1 with ⟨-, w2⟩ | w2
        · rw [w, w2]
        · rw [h.2.1] at w2; exact absurd w2 (by decide)
      · rw [h.1] at w; exact absurd w (by decide)
    rw [if_pos h1, if_pos ⟨h.2.1, by rw [← e]; exact hE.mp h⟩, if_pos (decide_eq_true h)]
  · rw [if_neg (fun w => h (of_decide_eq_true w))]
    by_cases h1 : f.2 = g.2
    · rw [if_pos h1, if_pos h1, if_neg (fun w => h (hE.mpr (by rw [e]; exact w.2)))]
    · rw [if_neg h1, if_neg h1]
end
section
variable {G : tv_G} {h h' : tv_H} {th us x y w : Int32} {M : mM} {c z r t a b : Nat} {p q u : List Nat} {es fs : List tE} {s : tT} {f g : tE} {bs cs : List Nat}
theorem ly_app {I J : List tI} (hm : mh h th (nI (bs ++ I.flatMap itb ++ J.flatMap itb).length) M) (hl : ly M (bs ++ I.flatMap itb ++ J.flatMap itb)) : mh h th (nI (bs ++ (I ++ J).flatMap itb).length) M ∧ ly M (bs ++ (I ++ J).flatMap itb) := by
  rw [List.flatMap_append, ← List.append_assoc]
  exact ⟨hm, hl⟩
theorem l_Mo_changes (ht : t < 2) (hes : mt M t es) (hfs : mt M (1 - t) fs) (oe : okT es) (of : okT fs) : ∀ n i j, (es.length - i) + (fs.length - j) ≤ n → i ≤ es.length → j ≤ fs.length → ∀ bs M' hc g em, mh hc th (nI bs.length) M' → ly M' bs → kq M M' → fr mS h hc → mg es fs i j → ie es fs i em → bs.length + 23 * (es.length - i) + 39 * (fs.length - j) ≤ 2480 → tv_Ev G mm_Mo_changes 37 [some (.ref 497), some (.int (nI t)), some (.int (nI i)), some (.int (nI j)), some (.int (nI (1 - t))), g] [] hc c z (fun r h' => r = .inl (some (.int (nI (bs ++ (tll fs n (es.drop i) (fs.drop j) em).flatMap itb).length))) ∧ (∃ M', mh h' th (nI (bs ++ (tll fs n (es.drop i) (fs.drop j) em).flatMap itb).length) M' ∧ ly M' (bs ++ (tll fs n (es.drop i) (fs.drop j) em).flatMap itb) ∧ kq M M') ∧ fr mS h h') := by
  have hle := hes.2.1
  have hlf := hfs.2.1
  have fin : ∀ n i j, i = es.length → j = fs.length → ∀ bs M' hc g em, mh hc th (nI bs.length) M' → ly M' bs → kq M M' → fr mS h hc → tv_Ev G mm_Mo_changes 37 [some (.ref 497), some (.int (nI t)), some (.int (nI i)), some (.int (nI j)), some (.int (nI (1 - t))), g] [] hc c z (fun r h' => r = .inl (some (.int (nI (bs ++ (tll fs n (es.drop i) (fs.drop j) em).flatMap itb).length))) ∧ (∃ M', mh h' th (nI (bs ++ (tll fs n (es.drop i) (fs.drop j) em).flatMap itb).length) M' ∧ ly M' (bs ++ (tll fs n (es.drop i) (fs.drop j) em).flatMap itb) ∧ kq M M') ∧ fr mS h h') := by
    rintro n i j rfl rfl bs M' hc g em hm hl hk hf
    have e0 : tll fs n (es.drop es.length) (fs.drop fs.length) em = [] := by
      rw [List.drop_length, List.drop_length]
      cases n <;> rfl
    rw [e0]
    have h1 := (hk.t (by omega) hes).1
    have h2 := (hk.t (by omega) hfs).1
    refine e_Mo_changes_37 rfl ?_
    refine e_Mo_changes_38 rfl ?_
    refine e_Mo_changes_39 hm.1 rfl ?_
    refine e_Mo_changes_42 rfl ?_
    refine e_Mo_changes_43 (t) hm.a2 rfl (md (a := 2) (show t < 3 by omega)) mlen ?_
    rw [h1]
    refine e_Mo_changes_44 (fun c2 => absurd c2 (nI_nlt (Nat.le_refl _) (by omega))) (fun _ => ?_)
    refine e_Mo_changes_47 rfl ?_
    refine e_Mo_changes_48 rfl ?_
    refine e_Mo_changes_49 hm.1 rfl ?_
    refine e_Mo_changes_52 rfl ?_
    refine e_Mo_changes_54 (1 - t) hm.a2 rfl (md (a := 2) (show 1 - t < 3 by omega)) mlen ?_
    rw [h2]
    refine e_Mo_changes_55 (fun _ => ?_) (fun c2 => absurd (nI_le (Nat.le_refl _) (by omega)) c2)
    refine e_Mo_changes_174 rfl ?_
    refine e_Mo_changes_175 hm.1 rfl ?_
    obtain ⟨M2, q1, q2, q3⟩ := nil_ly hm hl
    have e9 : bs ++ ([] : List tI).flatMap itb = bs := List.append_nil _
    exact e_Mo_changes_178 ⟨by rw [e9], ⟨M2, q1, q2, hk.tr q3⟩, hf⟩
  intro n
  induction n with
  | zero =>
    intro i j hn hi hj bs M' hc g em hm hl hk hf _ _ _
    exact fin 0 i j (by omega) (by omega) bs M' hc g em hm hl hk hf
  | succ n ih =>
    intro i j hn hi hj bs M' hc g em hm hl hk hf hmg hie hbs
    rcases Nat.lt_or_ge 0 ((es.length - i) + (fs.length - j)) with hpos | hpos
    · have es1 := hk.t (by omega) hes
      have fs1 := hk.t (by omega) hfs
      have T : ∃ T, T = tll fs (n + 1) (es.drop i) (fs.drop j) em := ⟨_, rfl⟩
      obtain ⟨T, hT⟩ := T
      rw [← hT]
      have snew : ∀ v y, fs[j]? = some y → T = cms es fs y ++ tll fs n (es.drop i) (fs.drop (j + 1)) em → 0 ≤ v → v ≠ 0 → mg es fs i (j + 1) → tv_Ev G mm_Mo_changes 104 [some (.ref 497), some (.int (nI t)), some (.int (nI i)), some (.int (nI j)), some (.int (nI (1 - t))), g] [.int v] hc c z (fun r h' => r = .inl (some (.int (nI (bs ++ T.flatMap itb).length))) ∧ (∃ M', mh h' th (nI (bs ++ T.flatMap itb).length) M' ∧ ly M' (bs ++ T.flatMap itb) ∧ kq M M') ∧ fr mS h h') := by
        intro v y hy he hv0 hv1 hmg'
        have hjl := (List.getElem?_eq_some_iff.mp hy).1
        have oy := of.1 y (List.mem_of_getElem? hy)
        refine e_Mo_changes_104 (Nat.le_of_ble_eq_true rfl) ?_
        refine e_Mo_changes_106 rfl ?_
        refine e_Mo_changes_108 (fun _ => ?_) (fun c1 => absurd hv0 c1)
        refine e_Mo_changes_143 rfl ?_
        refine e_Mo_changes_144 rfl ?_
        refine e_Mo_changes_145  ?_
        refine e_Mo_changes_147 rfl ?_
        refine e_Mo_changes_149  ?_
        refine e_Mo_changes_150 rfl ?_
        refine e_Mo_changes_151  ?_
        rw [ix40]
        refine e_Mo_changes_152 hm.1 (by decide) (c_Mo_comes ht (r := 40 * (1 - t) + j) (by omega) hm hl es1 fs1 (fs1.2.2 j y hy) oe of oy (by omega)) (kn ?_) xn
        rintro hd ⟨⟨Md, md, ld, kd⟩, fd⟩
        refine e_Mo_changes_155 rfl ?_
        refine e_Mo_changes_158 rfl ?_
        refine e_Mo_changes_159 rfl ?_
        refine e_Mo_changes_161 (fun _ => ?_) (fun c1 => absurd c1 hv1)
        refine e_Mo_changes_168  ?_
        refine e_Mo_changes_169  ?_
        refine e_Mo_changes_170 (Nat.le_of_ble_eq_true rfl) ?_
        refine e_Mo_changes_171  ?_
        rw [show nI i + 0 = nI i from Int32.add_zero _]
        have hlen : ((cms es fs y).flatMap itb).length ≤ 39 := by
          have h16 := oy.2.2.1
          have h19 := wf_len oy.1
          unfold cms
          split
          · exact itf_len h19 h16
          · split
            · exact itf_len h19 h16
            · split
              · split
                · rw [itb_one, itb_len]; simp; omega
                · simp
              · exact itf_len h19 h16
        have := ih i (j + 1) (by omega) hi (by omega) _ Md hd (some (.int v)) em md ld (hk.tr kd) (hf.tr fd) hmg' hie (by rw [List.length_append]; omega)
        rw [nI_succ] at this
        refine ev_post ?_ this
        rintro r h' ⟨e9, ⟨M9, a9, b9, k9⟩, f9⟩
        obtain ⟨a8, b8⟩ := ly_app a9 b9
        rw [he]
        refine ⟨?_, ⟨M9, a8, b8, k9⟩, f9⟩
        rw [e9, List.flatMap_append, List.append_assoc]
      have sold : ∀ v y, es[i]? = some y → T = gos es fs y ++ tll fs n (es.drop (i + 1)) (fs.drop j) em → v < 0 → mg es fs (i + 1) j → fx fs y.1 = none → tv_Ev G mm_Mo_changes 104 [some (.ref 497), some (.int (nI t)), some (.int (nI i)), some (.int (nI j)), some (.int (nI (1 - t))), g] [.int v] hc c z (fun r h' => r = .inl (some (.int (nI (bs ++ T.flatMap itb).length))) ∧ (∃ M', mh h' th (nI (bs ++ T.flatMap itb).length) M' ∧ ly M' (bs ++ T.flatMap itb) ∧ kq M M') ∧ fr mS h h') := by
        intro v y hy he hv0 hmg' hnone
        have hil := (List.getElem?_eq_some_iff.mp hy).1
        have oy := oe.1 y (List.mem_of_getElem? hy)
        refine e_Mo_changes_104 (Nat.le_of_ble_eq_true rfl) ?_
        refine e_Mo_changes_106 rfl ?_
        refine e_Mo_changes_108 (fun c1 => absurd hv0 (Int32.not_lt.mpr c1)) (fun _ => ?_)
        refine e_Mo_changes_111 rfl ?_
        refine e_Mo_changes_112 rfl ?_
        refine e_Mo_changes_114  ?_
        refine e_Mo_changes_116 rfl ?_
        refine e_Mo_changes_117  ?_
        refine e_Mo_changes_118 rfl ?_
        refine e_Mo_changes_119  ?_
        rw [ix40]
        refine e_Mo_changes_120 hm.1 (by decide) (c_Mo_find hm (t := 1 - t) (r := 40 * t + i) (by omega) (by omega) fs1 (es1.2.2 i y hy).1 (oks of.1) of.2.1 oy.s) (kp ?_) xn
        rw [hnone]
        refine e_Mo_changes_123 (fun c1 => absurd c1 (show ¬ (0 : Int32) ≤ -1 by decide)) (fun _ => ?_)
        refine e_Mo_changes_126 rfl ?_
        refine e_Mo_changes_127 rfl ?_
        refine e_Mo_changes_128  ?_
        refine e_Mo_changes_130 rfl ?_
        refine e_Mo_changes_131  ?_
        refine e_Mo_changes_132 rfl ?_
        refine e_Mo_changes_133  ?_
        rw [ix40]
        refine e_Mo_changes_134 hm.1 (by decide) (c_Mo_goes ht (r := 40 * t + i) (by omega) hm hl es1 fs1 (es1.2.2 i y hy) oe of oy (by omega)) (kn ?_) xn
        rintro hd ⟨⟨Md, md, ld, kd⟩, fd⟩
        refine e_Mo_changes_137 rfl ?_
        refine e_Mo_changes_140  ?_
        refine e_Mo_changes_171  ?_
        have hlen : ((gos es fs y).flatMap itb).length ≤ 23 := by
          have h19 := wf_len oy.1
          unfold gos
          split
          · rw [itb_one, itb_len]; simp; omega
          · simp
        have := ih (i + 1) j (by omega) (by omega) hj _ Md hd (some (.int v)) em md ld (hk.tr kd) (hf.tr fd) hmg' (ie_next hie hy (fun q => absurd q.1.2 (by rw [kx_no hnone]; decide))) (by rw [List.length_append]; omega)
        rw [nI_succ] at this
        refine ev_post ?_ this
        rintro r h' ⟨e9, ⟨M9, a9, b9, k9⟩, f9⟩
        obtain ⟨a8, b8⟩ := ly_app a9 b9
        rw [he]
        refine ⟨?_, ⟨M9, a8, b8, k9⟩, f9⟩
        rw [e9, List.flatMap_append, List.append_assoc]
      have step : tv_Ev G mm_Mo_changes 58 [some (.ref 497), some (.int (nI t)), some (.int (nI i)), some (.int (nI j)), some (.int (nI (1 - t))), g] [] hc c z (fun r h' => r = .inl (some (.int (nI (bs ++ T.flatMap itb).length))) ∧ (∃ M', mh h' th (nI (bs ++ T.flatMap itb).length) M' ∧ ly M' (bs ++ T.flatMap itb) ∧ kq M M') ∧ fr mS h h') := by
        refine e_Mo_changes_58 rfl ?_
        refine e_Mo_changes_59 rfl ?_
        refine e_Mo_changes_60 hm.1 rfl ?_
        refine e_Mo_changes_63 rfl ?_
        refine e_Mo_changes_64 (t) hm.a2 rfl (md (a := 2) (show t < 3 by omega)) mlen ?_
        rw [es1.1]
        rcases Nat.lt_or_ge i es.length with gi | gi
        · have hei : es[i]? = some es[i] := List.getElem?_eq_getElem gi
          have di := drop_g hei
          refine e_Mo_changes_65 (fun _ => ?_) (fun c1 => absurd ((nI_eq (by omega) (by omega)).mp c1) (by omega))
          refine e_Mo_changes_72 rfl ?_
          refine e_Mo_changes_73 rfl ?_
          refine e_Mo_changes_74 hm.1 rfl ?_
          refine e_Mo_changes_77 rfl ?_
          refine e_Mo_changes_79 (1 - t) hm.a2 rfl (md (a := 2) (show 1 - t < 3 by omega)) mlen ?_
          rw [fs1.1]
          rcases Nat.lt_or_ge j fs.length with gj | gj
          · have hej : fs[j]? = some fs[j] := List.getElem?_eq_getElem gj
            have dj := drop_g hej
            have oi := oe.1 _ (List.getElem_mem gi)
            have oj := of.1 _ (List.getElem_mem gj)
            have mi := es1.2.2 i _ hei
            have mj := fs1.2.2 j _ hej
            refine e_Mo_changes_80 (fun _ => ?_) (fun c1 => absurd ((nI_eq (by omega) (by omega)).mp c1) (by omega))
            refine e_Mo_changes_87 rfl ?_
            refine e_Mo_changes_88  ?_
            refine e_Mo_changes_90 rfl ?_
            refine e_Mo_changes_91  ?_
            refine e_Mo_changes_92 rfl ?_
            refine e_Mo_changes_93  ?_
            refine e_Mo_changes_94  ?_
            refine e_Mo_changes_96 rfl ?_
            refine e_Mo_changes_98  ?_
            refine e_Mo_changes_99 rfl ?_
            refine e_Mo_changes_100  ?_
            rw [ix40, ix40]
            refine e_Mo_changes_101 hm.1 (by decide) (c_Mo_order hm (a := 40 * t + i) (b := 40 * (1 - t) + j) (by omega) (by omega) mi.1 mj.1 oi.s oj.s) (kp ?_) xn
            by_cases q1 : es[i].1 < fs[j].1
            · obtain ⟨n1, n2⟩ := mg_old of.2.1 hmg hei (fun y hy => by rw [hej] at hy; rw [← Option.some.inj hy]; exact q1)
              refine sold _ _ hei ?_ ((rov_lt oi.s oj.s mi.1.2.1 mj.1.2.1).mpr q1) n2 n1
              rw [hT, di, dj, tll, if_pos q1, gon_r oe of hei hie]
              rfl
            · have hge : 0 ≤ rov es[i].1 fs[j].1 := Int32.not_lt.mp (fun e => q1 ((rov_lt oi.s oj.s mi.1.2.1 mj.1.2.1).mp e))
              by_cases q2 : es[i].1 = fs[j].1
              · have hgm : fs[j] ∈ fs := List.getElem_mem gj
                have hE := emt_rE oe of (show es = es.take i ++ es[i] :: es.drop (i + 1) by rw [← di, List.take_append_drop]) hgm q2
                have hc := cms_kpt oe of hei hgm q2
                have he : T = cms es fs fs[j] ++ tll fs n (es.drop (i + 1)) (fs.drop (j + 1)) (if emt es[i] fs[j] (es.drop (i + 1)) fs then some es[i].1 else em) := by
                  rw [hc, hT, di, dj, tll, if_neg q1, if_pos q2]
                have hie' : ie es fs (i + 1) (if emt es[i] fs[j] (es.drop (i + 1)) fs then some es[i].1 else em) := by
                  by_cases q3 : emt es[i] fs[j] (es.drop (i + 1)) fs
                  · rw [if_pos q3]
                    exact ie_new (em := em) hei (hE.mp q3)
                  · rw [if_neg q3]
                    exact ie_next hie hei (fun w => q3 (hE.mpr w))
                rw [(rov_eq oi.s oj.s mi.1.2.1 mj.1.2.1).mpr q2]
                refine e_Mo_changes_104 (Nat.le_of_ble_eq_true rfl) ?_
                refine e_Mo_changes_106 rfl ?_
                refine e_Mo_changes_108 (fun _ => ?_) (fun c1 => absurd (by decide) c1)
                refine e_Mo_changes_143 rfl ?_
                refine e_Mo_changes_144 rfl ?_
                refine e_Mo_changes_145  ?_
                refine e_Mo_changes_147 rfl ?_
                refine e_Mo_changes_149  ?_
                refine e_Mo_changes_150 rfl ?_
                refine e_Mo_changes_151  ?_
                rw [ix40]
                refine e_Mo_changes_152 hm.1 (by decide) (c_Mo_comes ht (r := 40 * (1 - t) + j) (by omega) hm hl es1 fs1 mj oe of oj (by omega)) (kn ?_) xn
                rintro hd ⟨⟨Md, md, ld, kd⟩, fd⟩
                refine e_Mo_changes_155 rfl ?_
                refine e_Mo_changes_158 rfl ?_
                refine e_Mo_changes_159 rfl ?_
                refine e_Mo_changes_161 (fun c1 => absurd rfl c1) (fun _ => ?_)
                refine e_Mo_changes_164  ?_
                refine e_Mo_changes_165  ?_
                refine e_Mo_changes_169  ?_
                refine e_Mo_changes_170 (Nat.le_of_ble_eq_true rfl) ?_
                refine e_Mo_changes_171  ?_
                have hlen : ((cms es fs fs[j]).flatMap itb).length ≤ 39 := by
                  rw [hc]
                  exact kpt_len (wf_len oj.1) oj.2.2.1
                have := ih (i + 1) (j + 1) (by omega) (by omega) (by omega) _ Md hd (some (.int 0)) _ md ld (hk.tr kd) (hf.tr fd) (mg_both oe.2.1 of.2.1 hmg hei hej q2) hie' (by rw [List.length_append]; omega)
                rw [nI_succ, nI_succ] at this
                refine ev_post ?_ this
                rintro r h' ⟨e9, ⟨M9, a9, b9, k9⟩, f9⟩
                obtain ⟨a8, b8⟩ := ly_app a9 b9
                rw [he]
                refine ⟨?_, ⟨M9, a8, b8, k9⟩, f9⟩
                rw [e9, List.flatMap_append, List.append_assoc]
              · have q3 : fs[j].1 < es[i].1 := by
                  rcases lt3 es[i].1 fs[j].1 with w | w | w
                  · exact absurd w q1
                  · exact absurd w q2
                  · exact w
                obtain ⟨n1, n2⟩ := mg_new oe.2.1 hmg hej (fun y hy => by rw [hei] at hy; rw [← Option.some.inj hy]; exact q3)
                refine snew _ _ hej ?_ hge (fun e => q2 ((rov_eq oi.s oj.s mi.1.2.1 mj.1.2.1).mp e)) n2
                rw [hT, di, dj, tll, if_neg q1, if_neg q2, cms_new n1]
                rfl
          · have dj : fs.drop j = [] := List.drop_eq_nil_of_le gj
            have hj0 : j = fs.length := by omega
            obtain ⟨n1, n2⟩ := mg_old of.2.1 hmg hei (fun y hy => by rw [List.getElem?_eq_none gj] at hy; cases hy)
            refine e_Mo_changes_80 (fun c1 => absurd (by rw [hj0]) c1) (fun _ => ?_)
            refine e_Mo_changes_83  ?_
            refine e_Mo_changes_84  ?_
            refine sold _ _ hei ?_ (by decide) n2 n1
            rw [hT, di, dj, tll, gon_r oe of hei hie]
            rfl
        · have di : es.drop i = [] := List.drop_eq_nil_of_le gi
          have hi0 : i = es.length := by omega
          have gj : j < fs.length := by omega
          have hej : fs[j]? = some fs[j] := List.getElem?_eq_getElem gj
          have dj := drop_g hej
          obtain ⟨n1, n2⟩ := mg_new oe.2.1 hmg hej (fun y hy => by rw [List.getElem?_eq_none gi] at hy; cases hy)
          refine e_Mo_changes_65 (fun c1 => absurd (by rw [hi0]) c1) (fun _ => ?_)
          refine e_Mo_changes_68  ?_
          refine e_Mo_changes_69  ?_
          refine snew _ _ hej ?_ (by decide) (by decide) n2
          rw [hT, di, dj, tll, cms_new n1]
          rfl
      refine e_Mo_changes_37 rfl ?_
      refine e_Mo_changes_38 rfl ?_
      refine e_Mo_changes_39 hm.1 rfl ?_
      refine e_Mo_changes_42 rfl ?_
      refine e_Mo_changes_43 (t) hm.a2 rfl (md (a := 2) (show t < 3 by omega)) mlen ?_
      rw [es1.1]
      refine e_Mo_changes_44 (fun _ => step) (fun c1 => ?_)
      have gi : es.length ≤ i := by
        rcases Nat.lt_or_ge i es.length with w | w
        · exact absurd (nI_lt w (by omega)) c1
        · exact w
      refine e_Mo_changes_47 rfl ?_
      refine e_Mo_changes_48 rfl ?_
      refine e_Mo_changes_49 hm.1 rfl ?_
      refine e_Mo_changes_52 rfl ?_
      refine e_Mo_changes_54 (1 - t) hm.a2 rfl (md (a := 2) (show 1 - t < 3 by omega)) mlen ?_
      rw [fs1.1]
      refine e_Mo_changes_55 (fun c2 => absurd c2 (nI_ge (by omega) (by omega))) (fun _ => step)
    · exact fin (n + 1) i j (by omega) (by omega) bs M' hc g em hm hl hk hf
theorem tn_1 (hx : it x) : tn (1 - x) = 1 - tn x := by rcases hx with rfl | rfl <;> decide
theorem c_Mo_changes (hs : msr h th s) (ok : okX s) : tv_Ct G mm_Mo_changes [.ref 497, .int x] h 0 0 (rv (.int (if it x then nI (lyb (mchg s x).2).length else 0)) (fun h' => msr h' (nI (mchg s x).1) (mchg s x).2 ∧ fr mS h h')) := by
  obtain ⟨M, hm, hss⟩ := hs
  have ht2 := tn_lt x
  unfold mchg
  by_cases hx : it x
  · rw [if_pos hx, if_pos hx]
    have hes := hss.tree x
    have hfs := hss.tree (1 - x)
    rw [tn_1 hx] at hfs
    have hle := hes.2.1
    have hlf := hfs.2.1
    refine tv_ct rfl (by decide +kernel) (by simp [Value.category]) (Nat.le_of_ble_eq_true rfl) ?_
    refine e_Mo_changes_0 rfl ?_
    refine e_Mo_changes_1 rfl ?_
    refine e_Mo_changes_2 (Nat.le_of_ble_eq_true rfl) c_Mo_isTree (kp ?_) xn
    rw [if_pos hx]
    refine e_Mo_changes_5 (fun _ => ?_) (fun c1 => absurd c1 (by decide))
    refine e_Mo_changes_12  ?_
    refine e_Mo_changes_13  ?_
    refine e_Mo_changes_14  ?_
    refine e_Mo_changes_15 hm.1 (by decide) (c_Mo_fails hm) (kv ?_) xn
    rintro h2 ⟨hm2, f2⟩
    refine e_Mo_changes_18 (fun _ => ?_) (fun c1 => absurd rfl c1)
    refine e_Mo_changes_23 rfl ?_
    refine e_Mo_changes_24  ?_
    refine e_Mo_changes_25 hm2.1 (Nat.le_of_ble_eq_true rfl) ?_
    have hm3 := hm2.obj (nI 0) (nI 0)
    refine e_Mo_changes_28  ?_
    refine e_Mo_changes_29 (Nat.le_of_ble_eq_true rfl) ?_
    refine e_Mo_changes_30  ?_
    refine e_Mo_changes_31 (Nat.le_of_ble_eq_true rfl) ?_
    refine e_Mo_changes_32  ?_
    refine e_Mo_changes_33 rfl ?_
    refine e_Mo_changes_34  ?_
    rw [show x = nI (tn x) from tn_x hx, o1t ht2]
    refine e_Mo_changes_35 (Nat.le_of_ble_eq_true rfl) ?_
    rw [← tn_x hx]
    have := l_Mo_changes (G := G) (c := 0) (z := 0) (h := h) ht2 hes hfs (ok.tree x) (ok.tree (1 - x)) ((gt s x).length + (gt s (1 - x)).length) 0 0 (by omega) (by omega) (by omega) [] M _ none none hm3 (fun k c hk => by cases hk) kq.rf (f2.tr (fr.set ⟨by omega, by omega⟩)) ⟨fun k x n y hk => by omega, fun n y k x hn => by omega⟩ (fun k x hk => by omega) (by simp; omega)
    rw [← tn_x hx] at this
    refine ev_post ?_ this
    rintro r h' ⟨e, ⟨M', a1, a2, a3⟩, a4⟩
    rw [List.nil_append, List.drop_zero, List.drop_zero] at e a1 a2
    refine ⟨e, ⟨M', a1, a3.t (by decide) hss.1, a3.t (by decide) hss.2.1, a3.pp (by decide) hss.2.2.1, a2, ?_⟩, a4⟩
    have := (tll_ok (gt s (1 - x)) ((gt s x).length + (gt s (1 - x)).length) (gt s x) (gt s (1 - x)) none (ok.tree x).1 (ok.tree (1 - x)).1).1
    show ((cht s x).flatMap itb).length ≤ 2480
    unfold cht
    omega
  · rw [if_neg hx, if_neg hx]
    refine tv_ct rfl (by decide +kernel) (by simp [Value.category]) (Nat.le_of_ble_eq_true rfl) ?_
    refine e_Mo_changes_0 rfl ?_
    refine e_Mo_changes_1 rfl ?_
    refine e_Mo_changes_2 (Nat.le_of_ble_eq_true rfl) c_Mo_isTree (kp ?_) xn
    rw [if_neg hx]
    refine e_Mo_changes_5 (fun c1 => absurd rfl c1) (fun _ => ?_)
    refine e_Mo_changes_8  ?_
    refine e_Mo_changes_9  ?_
    refine e_Mo_changes_13  ?_
    refine e_Mo_changes_14  ?_
    refine e_Mo_changes_15 hm.1 (by decide) (c_Mo_fails hm) (kv ?_) xn
    rintro h2 ⟨hm2, f2⟩
    refine e_Mo_changes_18 (fun c1 => absurd c1 (by decide)) (fun _ => ?_)
    refine e_Mo_changes_21  ?_
    exact e_Mo_changes_22 ⟨rfl, ⟨M, hm2, hss⟩, f2⟩
end
