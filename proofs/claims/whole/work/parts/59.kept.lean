/-! what holds of the state between calls, and what a call answers with -/
def okK (x : tI) : Prop := (x.1 = 2 ∨ x.2.2 = []) ∧ ∀ c ∈ x.2.2, c < 256
def okZ (s : tT) : Prop := okX s ∧ ∀ x ∈ s.2.2.2, okK x
section
variable {s : tT} {x y w : Int32} {es es' : List tE} {f g : tE}
theorem okZ_st (h : okZ s) (he : okT es) : okZ (st s x es) := by
  unfold st
  split
  · exact ⟨⟨he, h.1.2.1, h.1.2.2⟩, h.2⟩
  · exact ⟨⟨h.1.1, he, h.1.2.2⟩, h.2⟩
theorem okZ_path (h : okZ s) (a b d : Int32) : okZ (s.1, s.2.1, w3p a b d, s.2.2.2) := by
  refine ⟨⟨h.1.1, h.1.2.1, ?_, h.1.2.2.2⟩, h.2⟩
  show w3p a b d = [] ∨ wf (w3p a b d) = true
  unfold w3p
  split
  · rename_i q; exact Or.inr q
  · exact Or.inl rfl
theorem wbk_lt (w : Int32) (k : Nat) : ∀ c ∈ wbk w k, c < 256 := by
  intro c hc
  unfold wbk at hc
  obtain ⟨i, -, rfl⟩ := List.mem_map.mp (List.mem_filter.mp hc).1
  exact wb_lt w i
theorem wf_of (h : okX s) (hn : s.2.2.1 ≠ []) : wf s.2.2.1 = true := h.2.2.1.resolve_left hn
theorem mdir_ok (h : okZ s) : okZ (mdir s x).2 := by
  unfold mdir
  split
  · split
    · exact h
    · rename_i g0
      split
      · exact h
      · rename_i g4
        refine okZ_st h (pu_ok (h.1.tree x) ⟨wf_of h.1 (fun q => g0 (Or.inl q)), Or.inl ⟨rfl, rfl⟩, Nat.zero_le _, fun c hc => by cases hc⟩ ?_ (fun q => g4 q.2) (Or.inl rfl))
        exact Classical.byContradiction (fun q => g0 (Or.inr (Or.inr q)))
  · exact h
theorem mfil_ok (h : okZ s) : okZ (mfil s x w).2 := by
  unfold mfil
  split
  · split
    · exact h
    · rename_i g0
      split
      · exact h
      · rename_i g4
        refine okZ_st h (pu_ok (h.1.tree x) ⟨wf_of h.1 (fun q => g0 (Or.inl q)), Or.inr rfl, ?_, wbk_lt w 4⟩ ?_ g4 (Or.inr (fun q => g0 (Or.inr (Or.inr q)))))
        · have := wbk_len w 4
          show (wbk w 4).length ≤ 16
          omega
        · exact Classical.byContradiction (fun q => g0 (Or.inr (Or.inl q)))
  · exact h
theorem madd_ok (h : okZ s) : okZ (madd s x w).2 := by
  unfold madd
  split
  · split
    · exact h
    · rename_i i hf
      split
      · exact h
      · rename_i f he
        split
        · rename_i k2
          split
          · exact h
          · rename_i k16
            have hm := List.mem_of_getElem? he
            have of := (h.1.tree x).e hm
            obtain ⟨f', he', h1⟩ := fx_lt hf
            rw [he] at he'
            cases he'
            refine okZ_st h (set_ok (h.1.tree x) (f := (f.1, f.2.1, f.2.2 ++ wbk w 4)) ⟨of.1, Or.inr k2, ?_, fun c hc => ?_⟩ ?_ ?_)
            · show (f.2.2 ++ wbk w 4).length ≤ 16
              rw [List.length_append]
              omega
            · rcases List.mem_append.mp hc with w' | w'
              · exact of.2.2.2 c w'
              · exact wbk_lt w 4 c w'
            · show fx _ f.1 = _
              rw [h1]
              exact hf
            · show kx (gt s x) f.1 = f.2.1
              exact kx_mem (h.1.tree x).2.1 hm
        · exact h
  · exact h
theorem mrem_ok (h : okZ s) : okZ (mrem s x).2 := by
  unfold mrem
  split
  · split
    · exact h
    · exact okZ_st h (dr_ok (h.1.tree x))
  · exact h
theorem mmov_ok {a b d : Int32} (h : okZ s) : okZ (mmov s x a b d).2 := by
  unfold mmov
  split
  · rename_i g0
    split
    · rename_i g1
      exact okZ_st h (sft_ok (h.1.tree x) g0.2 g1)
    · exact h
  · exact h
theorem mcpy_ok (h : okZ s) : okZ (mcpy s x y).2 := by
  unfold mcpy
  split
  · exact okZ_st h (h.1.tree x)
  · exact h
theorem itf_k (og : okE g) : okK (itf g) := by
  refine ⟨?_, og.2.2.2⟩
  rcases og.2.1 with ⟨-, q⟩ | q
  · exact Or.inr q
  · refine Or.inl ?_
    show (if g.2.1 = 1 then 1 else 2) = 2
    rw [if_neg (by rw [q]; decide)]
theorem gon_k {fs : List tE} {em : Option (List Nat)} : ∀ x ∈ gon fs em f, okK x := by
  intro x hx
  unfold gon at hx
  split at hx
  · cases hx
  · rw [List.mem_singleton.mp hx]
    exact ⟨Or.inr rfl, fun c hc => by cases hc⟩
theorem kpt_k {y : Bool} (og : okE g) : ∀ x ∈ kpt f g y, okK x := by
  intro x hx
  unfold kpt at hx
  split at hx
  · rw [List.mem_singleton.mp hx]
    exact ⟨Or.inr rfl, fun c hc => by cases hc⟩
  · split at hx
    · cases hx
    · rw [List.mem_singleton.mp hx]
      exact itf_k og
theorem tll_k (fs : List tE) : ∀ n (es' fs' : List tE) em, (∀ f ∈ fs', okE f) → ∀ x ∈ tll fs n es' fs' em, okK x := by
  intro n
  induction n with
  | zero => intro es' fs' em _ x hx; cases hx
  | succ n ih =>
    intro es' fs' em h2 x hx
    cases es' with
    | nil =>
      cases fs' with
      | nil => cases hx
      | cons g gs =>
        rw [tll] at hx
        rcases List.mem_cons.mp hx with q | q
        · rw [q]; exact itf_k (h2 g List.mem_cons_self)
        · exact ih [] gs em (fun f hf => h2 f (List.mem_cons_of_mem _ hf)) x q
    | cons f r =>
      cases fs' with
      | nil =>
        rw [tll] at hx
        rcases List.mem_append.mp hx with q | q
        · exact gon_k x q
        · exact ih r [] em h2 x q
      | cons g gs =>
        rw [tll] at hx
        split at hx
        · rcases List.mem_append.mp hx with q | q
          · exact gon_k x q
          · exact ih r (g :: gs) em h2 x q
        · split at hx
          · rcases List.mem_append.mp hx with q | q
            · exact kpt_k (h2 g List.mem_cons_self) x q
            · exact ih r gs _ (fun f hf => h2 f (List.mem_cons_of_mem _ hf)) x q
          · rcases List.mem_cons.mp hx with q | q
            · rw [q]; exact itf_k (h2 g List.mem_cons_self)
            · exact ih (f :: r) gs em (fun f hf => h2 f (List.mem_cons_of_mem _ hf)) x q
theorem mchg_ok (h : okZ s) : okZ (mchg s x).2 := by
  unfold mchg
  split
  · exact ⟨⟨h.1.1, h.1.2.1, h.1.2.2.1, (tll_ok _ _ _ _ _ (h.1.tree x).1 (h.1.tree (1 - x)).1).2⟩, tll_k _ _ _ _ _ (h.1.tree (1 - x)).1⟩
  · exact h
theorem pf_ok (ok : okT es) (hw : wf f.1 = true) (h16 : f.2.2.length ≤ 16) (hb : ∀ c ∈ f.2.2, c < 256) (hk : f.2.1 = 2 ∨ f.2.2 = []) (h : pf es f = some es') : okT es' := by
  unfold pf at h
  split at h
  · rename_i k1
    split at h
    · rename_i g0
      cases h
      exact pu_ok ok ⟨hw, Or.inl ⟨k1, hk.resolve_left (by rw [k1]; decide)⟩, h16, hb⟩ g0.1 g0.2 (Or.inl k1)
    · cases h
  · split at h
    · rename_i k2
      split at h
      · rename_i g0
        cases h
        exact pudr_ok ok ⟨hw, Or.inr k2, h16, hb⟩ g0.1 g0.2
      · cases h
    · split at h
      · split at h
        · cases h
        · cases h; exact dr_ok ok
      · split at h
        · split at h
          · cases h; exact dr_ok ok
          · cases h
        · cases h
theorem apl_ok : ∀ (its : List tI) {es es' : List tE}, okT es → (∀ x ∈ its, okI x ∧ okK x) → apl its es = some es' → okT es' := by
  intro its
  induction its with
  | nil => intro es es' ok _ h; cases h; exact ok
  | cons x r ih =>
    intro es es' ok hi h
    rw [apl] at h
    split at h
    · cases h
    · rename_i e1 h1
      have hx := hi x List.mem_cons_self
      exact ih (pf_ok ok hx.1.2.2.1 hx.1.2.2.2.2 hx.2.2 (hx.2.1.imp (fun q => by show nI x.1 = 2; rw [q]; rfl) id) h1) (fun y hy => hi y (List.mem_cons_of_mem _ hy)) h
theorem mapp_ok (h : okZ s) : okZ (mapp s x).2 := by
  unfold mapp
  split
  · split
    · exact h
    · rename_i es he
      exact okZ_st h (apl_ok _ (h.1.tree x) (fun y hy => ⟨h.1.2.2.2 y hy, h.2 y hy⟩) he)
  · exact h
theorem mdir_le : (mdir s x).1 ≤ 3 := by unfold mdir; (repeat' split) <;> exact Nat.le_of_ble_eq_true rfl
theorem mfil_le : (mfil s x w).1 ≤ 3 := by unfold mfil; (repeat' split) <;> exact Nat.le_of_ble_eq_true rfl
theorem madd_le : (madd s x w).1 ≤ 3 := by unfold madd; (repeat' split) <;> exact Nat.le_of_ble_eq_true rfl
theorem mrem_le : (mrem s x).1 ≤ 2 := by unfold mrem; (repeat' split) <;> exact Nat.le_of_ble_eq_true rfl
theorem mmov_le {a b d : Int32} : (mmov s x a b d).1 ≤ 2 := by unfold mmov; (repeat' split) <;> exact Nat.le_of_ble_eq_true rfl
theorem mapp_le : (mapp s x).1 ≤ 2 := by unfold mapp; (repeat' split) <;> exact Nat.le_of_ble_eq_true rfl
theorem mcpy_le : (mcpy s x y).1 ≤ 1 := by unfold mcpy; (repeat' split) <;> exact Nat.le_of_ble_eq_true rfl
theorem mchg_le : (mchg s x).1 ≤ 1 := by unfold mchg; (repeat' split) <;> exact Nat.le_of_ble_eq_true rfl
theorem mlay_le : (mlay s x).1 ≤ 1 := by unfold mlay; (repeat' split) <;> exact Nat.le_of_ble_eq_true rfl
theorem ment_le : (ment s x y w).1 ≤ 2 := by unfold ment; (repeat' split) <;> exact Nat.le_of_ble_eq_true rfl
theorem okZ_nil : okZ ([], [], [], []) := ⟨⟨⟨fun f hf => (by cases hf), List.Pairwise.nil, fun f hf => (by cases hf)⟩, ⟨fun f hf => (by cases hf), List.Pairwise.nil, fun f hf => (by cases hf)⟩, Or.inl rfl, fun x hx => (by cases hx)⟩, fun x hx => (by cases hx)⟩
end
