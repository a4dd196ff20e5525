/-! emptied directories -/
/-- an entry right below u -/
abbrev drc (u : List Nat) (x : tE) : Prop := bw x.1 u ∧ sh x.1 = u.length
def al_ (fs : List tE) (u : List Nat) (l : List tE) : Bool := l.all (fun x => !decide (drc u x) || decide (fx fs x.1 = none))
def cn (u : List Nat) (l : List tE) : Nat := (l.filter (fun x => decide (drc u x))).length
/-- the directory u of both trees is emptied -/
abbrev rE (es fs : List tE) (u : List Nat) : Prop := (kx es u = 1 ∧ kx fs u = 1) ∧ al_ fs u es = true ∧ 2 ≤ cn u es
section
variable {es fs r l : List tE} {u p : List Nat} {f g x : tE} {i : Nat}
theorem al_app : al_ fs u (l ++ r) = (al_ fs u l && al_ fs u r) := List.all_append
theorem cn_app : cn u (l ++ r) = cn u l + cn u r := by unfold cn; rw [List.filter_append, List.length_append]
theorem al_one : al_ fs u [x] = (!decide (drc u x) || decide (fx fs x.1 = none)) := by
  unfold al_
  rw [List.all_cons, List.all_nil, Bool.and_true]
theorem cn_one : cn u [x] = if drc u x then 1 else 0 := by
  unfold cn
  by_cases h : drc u x
  · rw [if_pos h, List.filter_cons_of_pos (p := fun x => decide (drc u x)) (decide_eq_true h)]
    rfl
  · rw [if_neg h, List.filter_cons_of_neg (by rw [decide_eq_true_eq]; exact h)]
    rfl
theorem al_iff : al_ fs u l = true ↔ ∀ x ∈ l, drc u x → fx fs x.1 = none := by
  unfold al_
  rw [List.all_eq_true]
  constructor
  · intro h x hx hd
    have := h x hx
    simp [hd] at this
    exact this
  · intro h x hx
    by_cases hd : drc u x
    · simp [h x hx hd]
    · simp [hd]
theorem cn_zero (h : ∀ x ∈ l, ¬ bw x.1 u) : al_ fs u l = true ∧ cn u l = 0 := by
  refine ⟨al_iff.mpr (fun x hx hd => absurd hd.1 (h x hx)), ?_⟩
  unfold cn
  rw [List.length_eq_zero_iff, List.filter_eq_nil_iff]
  intro x hx
  rw [decide_eq_true_eq]
  exact fun hd => h x hx hd.1
theorem emw_eq : ∀ (r : List tE) (n : Nat), srt r → (∀ x ∈ r, u < x.1 ∧ ∀ c ∈ x.1, 47 ≤ c) → emw u fs r n = if al_ fs u r = true then some (n + cn u r) else none := by
  intro r
  induction r with
  | nil => intro n _ _; rfl
  | cons f r ih =>
    intro n hs hr
    have h1 := List.pairwise_cons.mp hs
    have ih := fun n => ih n h1.2 (fun x hx => hr x (List.mem_cons_of_mem _ hx))
    rw [emw]
    have ea : al_ fs u (f :: r) = (al_ fs u [f] && al_ fs u r) := al_app (l := [f])
    have ec : cn u (f :: r) = cn u [f] + cn u r := cn_app (l := [f])
    rw [ea, ec, al_one, cn_one]
    by_cases hb : bw f.1 u
    · rw [if_pos hb]
      by_cases hd : sh f.1 = u.length
      · rw [if_pos hd, if_pos (⟨hb, hd⟩ : drc u f)]
        by_cases hn : fx fs f.1 = none
        · rw [if_pos hn, ih]
          simp only [hn, decide_true, Bool.or_true, Bool.true_and]
          split
          · rw [show n + 1 + cn u r = n + (1 + cn u r) by omega]
          · rfl
        · rw [if_neg hn, if_neg]
          have : drc u f := ⟨hb, hd⟩
          simp [hn, this]
      · have hnd : ¬ drc u f := fun q => hd q.2
        rw [if_neg hd, if_neg hnd, ih]
        simp [hnd]
    · rw [if_neg hb]
      have hnd : ¬ drc u f := fun q => hb q.1
      have hz : ∀ x ∈ r, ¬ bw x.1 u := by
        intro x hx hbx
        have h2 := hr f List.mem_cons_self
        exact hb (btw h2.1 (h1.1 x hx) hbx h2.2)
      obtain ⟨z1, z2⟩ := cn_zero (fs := fs) hz
      rw [if_neg hnd, z1, z2]
      simp [hnd]
theorem emt_rE (he : okT es) (hf : okT fs) {pre : List tE} (hes : es = pre ++ f :: r) (hg : g ∈ fs) (hfg : f.1 = g.1) : emt f g r fs ↔ rE es fs f.1 := by
  have hfm : f ∈ es := by rw [hes]; exact List.mem_append_right _ List.mem_cons_self
  have k1 := kx_mem he.2.1 hfm
  have k2 := kx_mem hf.2.1 hg
  rw [← hfg] at k2
  have hs := he.2.1
  rw [hes] at hs
  obtain ⟨s1, s2, s3⟩ := List.pairwise_append.mp hs
  obtain ⟨s4, s5⟩ := List.pairwise_cons.mp s2
  have hz : ∀ x ∈ pre ++ [f], ¬ bw x.1 f.1 := by
    intro x hx hb
    rcases List.mem_append.mp hx with w | w
    · exact lt_irr (lt_tr (bw_lt hb) (s3 x w f List.mem_cons_self))
    · rw [List.mem_singleton.mp w] at hb
      exact bw_irr hb
  obtain ⟨z1, z2⟩ := cn_zero (fs := fs) hz
  have e1 : es = (pre ++ [f]) ++ r := by rw [hes]; simp
  have ea : al_ fs f.1 es = al_ fs f.1 r := by rw [e1, al_app, z1, Bool.true_and]
  have ec : cn f.1 es = cn f.1 r := by rw [e1, cn_app, z2, Nat.zero_add]
  have em := emw_eq (u := f.1) (fs := fs) r 0 s5 (fun x hx => ⟨s4 x hx, wf_ge (he.1 x (by rw [e1]; exact List.mem_append_right _ hx)).1⟩)
  unfold emt rE
  rw [k1, k2, ea, ec, em]
  constructor
  · rintro ⟨a, b, c⟩
    refine ⟨⟨a, b⟩, ?_⟩
    by_cases h : al_ fs f.1 r = true
    · rw [if_pos h, Nat.zero_add] at c
      exact ⟨h, of_decide_eq_true c⟩
    · rw [if_neg h] at c
      cases c
  · rintro ⟨⟨a, b⟩, c, d⟩
    refine ⟨a, b, ?_⟩
    rw [if_pos c, Nat.zero_add]
    exact decide_eq_true d
/-- what em says of the entries before i -/
def ie (es fs : List tE) (i : Nat) (em : Option (List Nat)) : Prop := match em with
  | none => ∀ k x, k < i → es[k]? = some x → ¬ rE es fs x.1
  | some u => ∃ k g, k < i ∧ es[k]? = some g ∧ g.1 = u ∧ rE es fs u ∧ ∀ m x, k < m → m < i → es[m]? = some x → ¬ rE es fs x.1
theorem ie_next {em : Option (List Nat)} (h : ie es fs i em) (hi : es[i]? = some f) (hn : ¬ rE es fs f.1) : ie es fs (i + 1) em := by
  cases em with
  | none =>
    intro k x hk hx
    rcases Nat.lt_or_ge k i with w | w
    · exact h k x w hx
    · have : k = i := by omega
      subst this
      rw [hi] at hx
      rw [← Option.some.inj hx]
      exact hn
  | some u =>
    obtain ⟨k, g, h1, h2, h3, h4, h5⟩ := h
    refine ⟨k, g, by omega, h2, h3, h4, fun m x hm1 hm2 hx => ?_⟩
    rcases Nat.lt_or_ge m i with w | w
    · exact h5 m x hm1 w hx
    · have : m = i := by omega
      subst this
      rw [hi] at hx
      rw [← Option.some.inj hx]
      exact hn
theorem ie_new {em : Option (List Nat)} (hi : es[i]? = some f) (hn : rE es fs f.1) : ie es fs (i + 1) (some f.1) := ⟨i, f, by omega, hi, rfl, hn, fun m x h1 h2 => by omega⟩
theorem srt_idx (hs : srt es) {j k : Nat} (hj : es[j]? = some f) (hk : es[k]? = some g) (h : f.1 < g.1) : j < k := by
  rcases Nat.lt_trichotomy j k with w | w | w
  · exact w
  · subst w
    rw [hj] at hk
    rw [Option.some.inj hk] at h
    exact (lt_irr h).elim
  · have hl := List.getElem?_eq_some_iff.mp hj
    have hl2 := List.getElem?_eq_some_iff.mp hk
    have := List.pairwise_iff_getElem.mp hs k j hl2.1 hl.1 w
    rw [hl.2, hl2.2] at this
    exact (lt_irr (lt_tr h this)).elim
theorem idx_srt (hs : srt es) {j k : Nat} (hj : es[j]? = some f) (hk : es[k]? = some g) (h : j < k) : f.1 < g.1 := by
  have hl := List.getElem?_eq_some_iff.mp hj
  have hl2 := List.getElem?_eq_some_iff.mp hk
  have := List.pairwise_iff_getElem.mp hs j k hl.1 hl2.1 h
  rw [hl.2, hl2.2] at this
  exact this
/-- an entry right below u of the older tree, at or above a path of the newer one -/
theorem rE_no (he : okT es) (hf : okT fs) (hu : u ≠ []) (hE : rE es fs u) (hx : x ∈ es) (hb : bw x.1 u) (hg : g ∈ fs) (hgx : g.1 = x.1) : False := by
  obtain ⟨k, hk, k1, k2, k3⟩ := he.way x.1.length x (Nat.le_refl _) hx u hu hb
  have h1 := al_iff.mp hE.2.1 k hk ⟨k1, k2⟩
  have h2 := (fx_none hf.2.1).mp h1
  rcases k3 with w | w
  · exact h2 g hg (hgx.trans w.symm)
  · obtain ⟨d, hd, d1, -⟩ := hf.above hg (u := k.1) (he.e hk).n (by rw [hgx]; exact w)
    exact h2 d hd d1
theorem gon_r {em : Option (List Nat)} (he : okT es) (hf : okT fs) (hi : es[i]? = some f) (hm : ie es fs i em) : gon fs em f = if sh f.1 = 0 ∨ (kx fs (par f.1) = 1 ∧ ¬ rE es fs (par f.1)) then [(3, f.1, [])] else [] := by
  have hfm := List.mem_of_getElem? hi
  have key : hpl fs f.1 → (ebw em f.1 = true ↔ sh f.1 ≠ 0 ∧ rE es fs (par f.1)) := by
    intro hp
    constructor
    · intro hb
      cases em with
      | none => cases hb
      | some u =>
        have hb : bw f.1 u := of_decide_eq_true hb
        obtain ⟨k, g, h1, h2, h3, h4, -⟩ := hm
        have hu : u ≠ [] := by rw [← h3]; exact (he.e (List.mem_of_getElem? h2)).n
        obtain ⟨h0, -⟩ := bw_sh hb hu
        refine ⟨h0, ?_⟩
        rcases bw_par hb hu with ⟨-, w⟩ | ⟨-, w⟩
        · rw [w]; exact h4
        · exfalso
          have hk1 : kx fs (par f.1) = 1 := by
            rcases hp with q | q
            · exact absurd q h0
            · exact q
          obtain ⟨d, hd, d1, -⟩ := (kx_1 hf.2.1).mp hk1
          obtain ⟨e, hee, e1, -⟩ := he.above hfm (par_ne h0) (par_bw h0)
          exact rE_no he hf hu h4 hee (by rw [e1]; exact w) hd (d1.trans e1.symm)
    · rintro ⟨h0, hE⟩
      obtain ⟨e, hee, e1, -⟩ := he.above hfm (par_ne h0) (par_bw h0)
      obtain ⟨k, hk⟩ := List.mem_iff_getElem?.mp hee
      have hki : k < i := srt_idx he.2.1 hk hi (by rw [e1]; exact bw_lt (par_bw h0))
      cases em with
      | none => exact absurd (by rw [e1]; exact hE) (hm k e hki hk)
      | some u =>
        obtain ⟨m, g, m1, m2, m3, m4, m5⟩ := hm
        refine decide_eq_true ?_
        rcases Nat.lt_trichotomy m k with w | w | w
        · exact absurd (by rw [e1]; exact hE) (m5 k e w hki hk)
        · subst w
          rw [m2] at hk
          rw [← m3, Option.some.inj hk, e1]
          exact par_bw h0
        · exfalso
          have hgm := List.mem_of_getElem? m2
          have a1 := idx_srt he.2.1 hk m2 w
          have a2 := idx_srt he.2.1 m2 hi m1
          have hb : bw g.1 (par f.1) := btw (by rw [← e1]; exact a1) a2 (par_bw h0) (wf_ge (he.e hgm).1)
          obtain ⟨d, hd, d1, -⟩ := (kx_1 hf.2.1).mp m4.1.2
          exact rE_no he hf (par_ne h0) hE hgm hb hd (d1.trans m3.symm)
  unfold gon
  by_cases hp : hpl fs f.1
  · have key := key hp
    by_cases hb : ebw em f.1 = true
    · rw [if_pos (Or.inl hb)]
      obtain ⟨a, b⟩ := key.mp hb
      rw [if_neg (by rintro (q | q); exact a q; exact q.2 b)]
    · rw [if_neg (by rintro (q | q); exact hb q; exact q hp)]
      rw [if_pos]
      rcases hp with q | q
      · exact Or.inl q
      · by_cases h0 : sh f.1 = 0
        · exact Or.inl h0
        · exact Or.inr ⟨q, fun w => hb (key.mpr ⟨h0, w⟩)⟩
  · rw [if_pos (Or.inr hp), if_neg]
    rintro (q | q)
    · exact hp (Or.inl q)
    · exact hp (Or.inr q.1)
end
