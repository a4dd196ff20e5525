/-! TreeChanges: changes, layer, apply, same, entries, entry -/
def cht (s : tT) (x : Int32) : List tI := tll (gt s (1 - x)) ((gt s x).length + (gt s (1 - x)).length) (gt s x) (gt s (1 - x)) none
def mchg (s : tT) (x : Int32) : Nat × tT := if it x then (0, (s.1, s.2.1, s.2.2.1, cht s x)) else (1, s)
abbrev lyb (s : tT) : List Nat := s.2.2.2.flatMap itb
def mlay (s : tT) (x : Int32) : Nat × Int32 := if x < 0 ∨ nI (lyb s).length ≤ x then (1, 0) else (0, lb (lyb s) x.toNatClampNeg)
/-- items done one after the other -/
def apl : List tI → List tE → Option (List tE)
  | [], es => some es
  | x :: r, es => match pf es (x.2.1, nI x.1, x.2.2) with
    | none => none
    | some es' => apl r es'
def mapp (s : tT) (x : Int32) : Nat × tT := if it x then (match apl s.2.2.2 (gt s x) with
  | none => (2, s)
  | some es => (0, st s x es)) else (1, s)
def ment (s : tT) (x i w : Int32) : Nat × Int32 := if it x ∧ ¬ w < 0 ∧ w ≤ 31 then (if i < 0 ∨ nI (gt s x).length ≤ i then (2, 0) else match (gt s x)[i.toNatClampNeg]? with
  | some f => (0, tl f.1 f.2.1 f.2.2 w.toNatClampNeg)
  | none => (2, 0)) else (1, 0)
def eL (_ : Nat) : String := "java/lang/IndexOutOfBoundsException"
def eE (k : Nat) : String := if k = 1 then "java/lang/IllegalArgumentException" else "java/lang/IndexOutOfBoundsException"
theorem dr_sme {es : List tE} {q : List Nat} {al : Bool} (hs : sme es) : sme (dr q al es) := fun f hf => hs f (List.mem_filter.mp hf).1
theorem pf_sme {es es' : List tE} {f : tE} (hs : sme es) (hf : sm f.1) (h : pf es f = some es') : sme es' := by
  unfold pf at h
  split at h
  · split at h
    · cases h; exact pu_sme hs hf
    · cases h
  · split at h
    · split at h
      · cases h; exact dr_sme (pu_sme hs hf)
      · cases h
    · split at h
      · split at h
        · cases h
        · cases h; exact dr_sme hs
      · split at h
        · split at h
          · cases h; exact dr_sme hs
          · cases h
        · cases h
section
variable {G : tv_G} {h h' : tv_H} {s : tT} {x y w : Int32} {c z : Nat}
theorem it_1 (hx : it x) : it (1 - x) := by rcases hx with rfl | rfl <;> decide
theorem c_Tc_changes (hs : tcs h s) (ok : okS s) : tv_Ct G mm_Tc_changes [.ref 0, .int x] h 1 6 (rc eX (mchg s x).1 (some (.int (nI (lyb (mchg s x).2).length))) (fun h' => tcs h' (mchg s x).2 ∧ fr cS h h')) := by
  unfold mchg
  by_cases hx : it x
  · rw [if_pos hx]
    have hl := hs.2.2.2.2.2.2.2
    obtain ⟨_, i1, -⟩ := id hl
    have na : ∀ x d, tS (ti x) d → ¬ pS 495 d := by
      rintro x d w (q | q) <;> exact tS_i (by omega) w
    refine tv_ct rfl (by decide +kernel) (by simp [Value.category]) (Nat.le_of_ble_eq_true rfl) ?_
    refine e_Tc_changes_0 rfl ?_
    refine e_Tc_changes_1 rfl ?_
    refine e_Tc_changes_2 (mc' := 0) (ms' := 0) hs.1 (by decide) (c_Tc_treeOf hs hx) (kp ?_) xn
    refine e_Tc_changes_5 (Nat.le_of_ble_eq_true rfl) ?_
    refine e_Tc_changes_6 rfl ?_
    refine e_Tc_changes_7 hs.1 rfl ?_
    refine e_Tc_changes_10 rfl ?_
    refine e_Tc_changes_11 rfl ?_
    refine e_Tc_changes_12  ?_
    refine e_Tc_changes_13 rfl ?_
    refine e_Tc_changes_14  ?_
    refine e_Tc_changes_15 (mc' := 0) (ms' := 0) hs.1 (Nat.le_of_ble_eq_true rfl) (c_Tc_treeOf hs (it_1 hx)) (kp ?_) xn
    refine e_Tc_changes_18 (mc' := 0) (ms' := 0) i1 (by decide) (c_La_tell hl (hs.tree x) (hs.tree (1 - x)) (ok.tree x) (ok.tree (1 - x)) (na _) (na _)) (kn ?_) xn
    rintro h2 ⟨l2, f2⟩
    have s2 := hs.layer l2 f2
    obtain ⟨_, i2, -⟩ := id l2
    refine e_Tc_changes_21 rfl ?_
    refine e_Tc_changes_22 s2.1 rfl ?_
    refine e_Tc_changes_25 i2 rfl ?_
    exact e_Tc_changes_28 ⟨rfl, s2, f2.mono (pS_c (by omega))⟩
  · rw [if_neg hx]
    refine tv_ct rfl (by decide +kernel) (by simp [Value.category]) (Nat.le_of_ble_eq_true rfl) ?_
    refine e_Tc_changes_0 rfl ?_
    refine e_Tc_changes_1 rfl ?_
    refine e_Tc_changes_2 (c := 0) (z := 0) (mc' := 1) (ms' := 6) hs.1 (by decide) (c_Tc_treeOf_no hx) rt (xo (xv_out rfl ⟨rfl, hs, fr.rf⟩))
theorem c_Tc_layer (hs : tcs h s) : tv_Ct G mm_Tc_layer [.ref 0, .int x] h 1 6 (rc eL (mlay s x).1 (some (.int (mlay s x).2)) (fun h' => tcs h' s ∧ fr cS h h')) := by
  have hl := hs.2.2.2.2.2.2.2
  have hlen : (lyb s).length ≤ 2480 := hl.len
  obtain ⟨_, i1, -⟩ := id hl
  unfold mlay
  rcases pk_ix x (n := (lyb s).length) (by omega) with g | g | ⟨j, hj, rfl⟩
  · rw [if_pos (Or.inl g)]
    refine tv_ct rfl (by decide +kernel) (by simp [Value.category]) (Nat.le_of_ble_eq_true rfl) ?_
    refine e_Tc_layer_0 rfl ?_
    refine e_Tc_layer_1 (fun _ => ?_) (fun c1 => absurd g c1)
    exact e_Tc_layer_15 (c := 0) (z := 0) ⟨rfl, hs, fr.rf⟩
  · rw [if_pos (Or.inr g)]
    refine tv_ct rfl (by decide +kernel) (by simp [Value.category]) (Nat.le_of_ble_eq_true rfl) ?_
    refine e_Tc_layer_0 rfl ?_
    refine e_Tc_layer_1 (fun c1 => ?_) (fun c1 => ?_)
    · exact e_Tc_layer_15 (c := 0) (z := 0) ⟨rfl, hs, fr.rf⟩
    · refine e_Tc_layer_4 rfl ?_
      refine e_Tc_layer_5 rfl ?_
      refine e_Tc_layer_6 hs.1 rfl ?_
      refine e_Tc_layer_9 i1 rfl ?_
      refine e_Tc_layer_12 (fun c2 => absurd c2 (Int32.not_lt.mpr g)) (fun _ => ?_)
      exact e_Tc_layer_15 (c := 0) (z := 0) ⟨rfl, hs, fr.rf⟩
  · rw [if_neg (by rintro (q | q); exact nI_pos (by omega) q; exact nI_ge hj (by omega) q), nI_clamp (by omega)]
    refine tv_ct rfl (by decide +kernel) (by simp [Value.category]) (Nat.le_of_ble_eq_true rfl) ?_
    refine e_Tc_layer_0 rfl ?_
    refine e_Tc_layer_1 (fun c1 => absurd c1 (nI_pos (by omega))) (fun c1 => ?_)
    refine e_Tc_layer_4 rfl ?_
    refine e_Tc_layer_5 rfl ?_
    refine e_Tc_layer_6 hs.1 rfl ?_
    refine e_Tc_layer_9 i1 rfl ?_
    refine e_Tc_layer_12 (fun _ => ?_) (fun c2 => absurd (nI_lt hj (by omega)) c2)
    refine e_Tc_layer_25 rfl ?_
    refine e_Tc_layer_26 hs.1 rfl ?_
    refine e_Tc_layer_29 rfl ?_
    refine e_Tc_layer_30 (mc' := 0) (ms' := 0) i1 (by decide) (c_La_byteAt hl (by omega)) (kp ?_) xn
    exact e_Tc_layer_33 ⟨rfl, hs, fr.rf⟩
theorem c_Tc_same (hs : tcs h s) (ok : okS s) : tv_Ct G mm_Tc_same [.ref 0] h 0 0 (rv (.int (if s.1 = s.2.1 then 1 else 0)) (fun h' => h' = h)) := by
  obtain ⟨rs, t1, -⟩ := hs.2.1.row
  refine tv_ct rfl (by decide +kernel) (by simp [Value.category]) (Nat.le_of_ble_eq_true rfl) ?_
  refine e_Tc_same_0 rfl ?_
  refine e_Tc_same_1 hs.1 rfl ?_
  refine e_Tc_same_4 rfl ?_
  refine e_Tc_same_5 hs.1 rfl ?_
  refine e_Tc_same_8 t1 (by decide) (c_Tr_isLike hs.2.1 hs.2.2.1 (oks ok.1) (oks ok.2.1)) (kp ?_) xn
  refine e_Tc_same_11 ?_ ⟨rfl, rfl⟩
  split
  · exact Or.inr rfl
  · exact Or.inl rfl
theorem c_Tc_entries (hs : tcs h s) : tv_Ct G mm_Tc_entries [.ref 0, .int x] h 1 6 (rc eX (if it x then 0 else 1) (some (.int (nI (gt s x).length))) (fun h' => h' = h)) := by
  by_cases hx : it x
  · rw [if_pos hx]
    obtain ⟨rs, t1, -⟩ := (hs.tree x).row
    refine tv_ct rfl (by decide +kernel) (by simp [Value.category]) (Nat.le_of_ble_eq_true rfl) ?_
    refine e_Tc_entries_0 rfl ?_
    refine e_Tc_entries_1 rfl ?_
    refine e_Tc_entries_2 (mc' := 0) (ms' := 0) hs.1 (by decide) (c_Tc_treeOf hs hx) (kp ?_) xn
    refine e_Tc_entries_5 t1 rfl ?_
    exact e_Tc_entries_8 ⟨rfl, rfl⟩
  · rw [if_neg hx]
    refine tv_ct rfl (by decide +kernel) (by simp [Value.category]) (Nat.le_of_ble_eq_true rfl) ?_
    refine e_Tc_entries_0 rfl ?_
    refine e_Tc_entries_1 rfl ?_
    refine e_Tc_entries_2 (c := 0) (z := 0) (mc' := 1) (ms' := 6) hs.1 (by decide) (c_Tc_treeOf_no hx) rt (xo (xv_out rfl ⟨rfl, rfl⟩))
theorem c_Tc_entry {i : Int32} (hs : tcs h s) : tv_Ct G mm_Tc_entry [.ref 0, .int x, .int i, .int w] h 1 6 (rc eE (ment s x i w).1 (some (.int (ment s x i w).2)) (fun h' => h' = h)) := by
  unfold ment
  by_cases hx : it x
  · have ht := hs.tree x
    have hl := ht.len
    obtain ⟨rs, t1, t2, t3, t4⟩ := ht.row
    refine tv_ct rfl (by decide +kernel) (by simp [Value.category]) (Nat.le_of_ble_eq_true rfl) ?_
    refine e_Tc_entry_0 rfl ?_
    refine e_Tc_entry_1 rfl ?_
    refine e_Tc_entry_2 (mc' := 0) (ms' := 0) hs.1 (by decide) (c_Tc_treeOf hs hx) (kp ?_) xn
    refine e_Tc_entry_5 (Nat.le_of_ble_eq_true rfl) ?_
    refine e_Tc_entry_7 rfl ?_
    refine e_Tc_entry_8 (fun c1 => ?_) (fun c1 => ?_)
    · rw [if_neg (show ¬ (it x ∧ ¬ w < 0 ∧ w ≤ 31) from fun q => q.2.1 c1)]
      exact e_Tc_entry_17 (c := 0) (z := 0) ⟨rfl, rfl⟩
    · refine e_Tc_entry_11 rfl ?_
      refine e_Tc_entry_12  ?_
      refine e_Tc_entry_14 (fun c2 => ?_) (fun c2 => ?_)
      · rw [if_pos (show it x ∧ ¬ w < 0 ∧ w ≤ 31 from ⟨hx, c1, c2⟩)]
        obtain ⟨wn, hwn, rfl⟩ := nI_of2 (n := 31) (M := 31) rfl c1 c2
        rcases pk_ix i (n := (gt s x).length) (by omega) with g | g | ⟨j, hj, rfl⟩
        · rw [if_pos (Or.inl g)]
          refine e_Tc_entry_27 rfl ?_
          refine e_Tc_entry_28 (fun _ => ?_) (fun c3 => absurd g c3)
          exact e_Tc_entry_40 (c := 0) (z := 0) ⟨rfl, rfl⟩
        · rw [if_pos (Or.inr g)]
          refine e_Tc_entry_27 rfl ?_
          refine e_Tc_entry_28 (fun _ => ?_) (fun c3 => ?_)
          · exact e_Tc_entry_40 (c := 0) (z := 0) ⟨rfl, rfl⟩
          · refine e_Tc_entry_31 rfl ?_
            refine e_Tc_entry_32 rfl ?_
            refine e_Tc_entry_34 t1 rfl ?_
            refine e_Tc_entry_37 (fun c4 => absurd c4 (Int32.not_lt.mpr g)) (fun _ => ?_)
            exact e_Tc_entry_40 (c := 0) (z := 0) ⟨rfl, rfl⟩
        · have hei : (gt s x)[j]? = some (gt s x)[j] := List.getElem?_eq_getElem hj
          obtain ⟨r, hr, e1⟩ := t4 j _ hei
          rw [if_neg (by rintro (q | q); exact nI_pos (by omega) q; exact nI_ge hj (by omega) q), nI_clamp (by omega), nI_clamp (by omega), hei]
          refine e_Tc_entry_27 rfl ?_
          refine e_Tc_entry_28 (fun c3 => absurd c3 (nI_pos (by omega))) (fun c3 => ?_)
          refine e_Tc_entry_31 rfl ?_
          refine e_Tc_entry_32 rfl ?_
          refine e_Tc_entry_34 t1 rfl ?_
          refine e_Tc_entry_37 (fun _ => ?_) (fun c4 => absurd (nI_lt hj (by omega)) c4)
          refine e_Tc_entry_50 rfl ?_
          refine e_Tc_entry_52 t1 rfl ?_
          refine e_Tc_entry_55 rfl ?_
          refine e_Tc_entry_56 j t2 rfl (map_get hr) (by rw [List.length_map]; omega) ?_
          refine e_Tc_entry_57 rfl ?_
          refine e_Tc_entry_58 (mc' := 0) (ms' := 0) e1.1 (by decide) (c_En_tell e1 (by omega)) (kp ?_) xn
          exact e_Tc_entry_61 ⟨rfl, rfl⟩
      · rw [if_neg (show ¬ (it x ∧ ¬ w < 0 ∧ w ≤ 31) from fun q => c2 q.2.2)]
        exact e_Tc_entry_17 (c := 0) (z := 0) ⟨rfl, rfl⟩
  · rw [if_neg (show ¬ (it x ∧ ¬ w < 0 ∧ w ≤ 31) from fun q => hx q.1)]
    refine tv_ct rfl (by decide +kernel) (by simp [Value.category]) (Nat.le_of_ble_eq_true rfl) ?_
    refine e_Tc_entry_0 rfl ?_
    refine e_Tc_entry_1 rfl ?_
    refine e_Tc_entry_2 (c := 0) (z := 0) (mc' := 1) (ms' := 6) hs.1 (by decide) (c_Tc_treeOf_no hx) rt (xo (xv_out rfl ⟨rfl, rfl⟩))
theorem l_Tc_apply (ok : okS s) {R : Nat × tT} (hx : it x) (hR : R = match apl s.2.2.2 (gt s x) with
  | none => (2, s)
  | some es => (0, st s x es)) : ∀ j i, j + i = s.2.2.2.length → ∀ hc es, tcs hc s → fr cS h hc → tr hc 325 es → sme es → apl s.2.2.2 (gt s x) = apl (s.2.2.2.drop i) es → tv_Ev G mm_Tc_apply 19 [some (.ref 0), some (.int x), some (.ref (ti x)), some (.int (nI ((s.2.2.2.take i).flatMap itb).length)), some (.int (nI i))] [] hc 1 6 (rc eX R.1 none (fun h' => tcs h' R.2 ∧ fr cS h h')) := by
  intro j
  induction j with
  | zero =>
    intro i hi hc es hs hf ht hsm ha
    have hi : i = s.2.2.2.length := by omega
    subst hi
    have hl := hs.2.2.2.2.2.2.2
    obtain ⟨_, i1, -⟩ := id hl
    have hm : s.2.2.2.length ≤ 2480 := by
      have h1 := hl.len
      have h2 : s.2.2.2.length ≤ (s.2.2.2.flatMap itb).length := by
        rw [List.length_flatMap]
        clear ha hR h1 hl i1 hs hsm ht ok
        induction s.2.2.2 with
        | nil => simp
        | cons y r ih => simp [itb_len] at ih ⊢; omega
      omega
    rw [List.drop_length, apl] at ha
    rw [ha] at hR
    have hR : R = (0, st s x es) := hR
    rw [hR]
    obtain ⟨rs, t1, -⟩ := (hs.tree x).row
    refine e_Tc_apply_19 rfl ?_
    refine e_Tc_apply_21 rfl ?_
    refine e_Tc_apply_22 hs.1 rfl ?_
    refine e_Tc_apply_25 i1 rfl ?_
    refine e_Tc_apply_28 (fun _ => ?_) (fun c1 => absurd (nI_le (Nat.le_refl _) (by omega)) c1)
    refine e_Tc_apply_74 rfl ?_
    refine e_Tc_apply_75 rfl ?_
    refine e_Tc_apply_76 hs.1 rfl ?_
    refine e_Tc_apply_79 (mc' := 0) (ms' := 0) t1 (by decide) (c_Tr_become (hs.tree x) ht (by
      intro b h1 h2
      have := h1.1
      have := h2.2
      rcases ti_or x with q | q <;> omega)) (kn ?_) xn
    rintro h2 ⟨t2, f2⟩
    exact e_Tc_apply_82 ⟨rfl, hs.upd t2 f2, hf.tr (f2.mono tS_c)⟩
  | succ j ih =>
    intro i hi hc es hs hf ht hsm ha
    have hl := hs.2.2.2.2.2.2.2
    obtain ⟨_, i1, -⟩ := id hl
    have hei : s.2.2.2[i]? = some s.2.2.2[i] := List.getElem?_eq_getElem (by omega)
    have oi := ok.2.2.2 _ (List.getElem_mem (show i < s.2.2.2.length by omega))
    have hm : s.2.2.2.length ≤ 2480 := by
      have h1 := hl.len
      have h2 : s.2.2.2.length ≤ (s.2.2.2.flatMap itb).length := by
        rw [List.length_flatMap]
        clear ha hR h1 hl i1 hs hsm ht ok hei oi ih hi
        induction s.2.2.2 with
        | nil => simp
        | cons y r ih => simp [itb_len] at ih ⊢; omega
      omega
    rw [drop_g hei, apl] at ha
    have hdr : (s.2.2.2.flatMap itb).drop ((s.2.2.2.take i).flatMap itb).length = itb s.2.2.2[i] ++ (s.2.2.2.drop (i + 1)).flatMap itb := by
      have h1 : s.2.2.2.flatMap itb = (s.2.2.2.take i).flatMap itb ++ (itb s.2.2.2[i] ++ (s.2.2.2.drop (i + 1)).flatMap itb) := by
        rw [← List.flatMap_cons, ← drop_g hei, ← List.flatMap_append, List.take_append_drop]
      rw [h1, List.drop_left]
    have htk : ((s.2.2.2.take (i + 1)).flatMap itb).length = ((s.2.2.2.take i).flatMap itb).length + (itb s.2.2.2[i]).length := by
      rw [take_g hei, List.flatMap_append, List.length_append, itb_one]
    obtain ⟨q7, k7, c7, h7⟩ := hs.2.2.2.2.2.2.1
    refine e_Tc_apply_19 rfl ?_
    refine e_Tc_apply_21 rfl ?_
    refine e_Tc_apply_22 hs.1 rfl ?_
    refine e_Tc_apply_25 i1 rfl ?_
    refine e_Tc_apply_28 (fun c1 => absurd c1 (nI_ge (by omega) (by omega))) (fun _ => ?_)
    refine e_Tc_apply_31 rfl ?_
    refine e_Tc_apply_32 hs.1 rfl ?_
    refine e_Tc_apply_35 rfl ?_
    refine e_Tc_apply_36 rfl ?_
    refine e_Tc_apply_37 hs.1 rfl ?_
    refine e_Tc_apply_40 (mc' := 0) (ms' := 0) i1 (by decide) (c_La_readItem hl h7 (by rintro d hd (q | q) <;> have := hd.2 <;> omega) hdr oi.2.2.2.1 oi.2.2.2.2) (kv ?_) xn
    rintro h2 ⟨e2, f2⟩
    have s2 := hs.item e2 f2
    have t2 := ht.kept f2 (fun b hb w => by have := hb.2; have := w.1; omega)
    obtain ⟨rs, r2, -⟩ := t2.row
    have sp := wf_sm oi.2.2.1
    refine e_Tc_apply_43 (Nat.le_of_ble_eq_true rfl) ?_
    refine e_Tc_apply_44 rfl ?_
    refine e_Tc_apply_45 s2.1 rfl ?_
    refine e_Tc_apply_48 rfl ?_
    refine e_Tc_apply_49 s2.1 rfl ?_
    refine e_Tc_apply_52 (mc' := 0) (ms' := 0) r2 (by decide) (c_Tr_perform oi.1 oi.2.1 t2 hsm e2 sp (wf_ne oi.2.2.1) (fun d hd w => by have := hd.1; have := w.2; omega)) (kv ?_) xn
    rintro h3 ⟨⟨es3, t3, u3⟩, f3⟩
    have s3 := s2.trial t3 f3
    have fc : fr cS h h3 := (hf.tr (f2.mono eS_c)).tr (f3.mono tS_c2)
    cases hpf : pf es (s.2.2.2[i].2.1, nI s.2.2.2[i].1, s.2.2.2[i].2.2) with
    | none =>
      rw [hpf] at ha
      have ha : apl s.2.2.2 (gt s x) = none := ha
      rw [ha] at hR
      have hR : R = (2, s) := hR
      rw [if_pos rfl, hR]
      refine e_Tc_apply_55 (fun c1 => absurd rfl c1) (fun _ => ?_)
      exact e_Tc_apply_58 (c := 0) (z := 0) ⟨rfl, s3, fc⟩
    | some es4 =>
      rw [hpf] at ha
      have ha : apl s.2.2.2 (gt s x) = apl (s.2.2.2.drop (i + 1)) es4 := ha
      have u3 := u3 _ hpf
      subst u3
      rw [if_neg (by intro q; cases q)]
      refine e_Tc_apply_55 (fun _ => ?_) (fun c1 => absurd c1 (by decide))
      refine e_Tc_apply_68 rfl ?_
      refine e_Tc_apply_71  ?_
      have := ih (i + 1) (by omega) h3 es3 s3 fc t3 (pf_sme hsm sp hpf) ha
      rw [nI_succ, htk] at this
      exact this
theorem c_Tc_apply (hs : tcs h s) (ok : okS s) : tv_Ct G mm_Tc_apply [.ref 0, .int x] h 1 6 (rc eX (mapp s x).1 none (fun h' => tcs h' (mapp s x).2 ∧ fr cS h h')) := by
  by_cases hx : it x
  · have hR : mapp s x = match apl s.2.2.2 (gt s x) with
      | none => (2, s)
      | some es => (0, st s x es) := by unfold mapp; rw [if_pos hx]
    obtain ⟨es, ht⟩ := hs.2.2.2.1
    obtain ⟨rs, r1, -⟩ := ht.row
    refine tv_ct rfl (by decide +kernel) (by simp [Value.category]) (Nat.le_of_ble_eq_true rfl) ?_
    refine e_Tc_apply_0 rfl ?_
    refine e_Tc_apply_1 rfl ?_
    refine e_Tc_apply_2 (mc' := 0) (ms' := 0) hs.1 (by decide) (c_Tc_treeOf hs hx) (kp ?_) xn
    refine e_Tc_apply_5 (Nat.le_of_ble_eq_true rfl) ?_
    refine e_Tc_apply_6 rfl ?_
    refine e_Tc_apply_7 hs.1 rfl ?_
    refine e_Tc_apply_10 rfl ?_
    refine e_Tc_apply_11 (mc' := 0) (ms' := 0) r1 (by decide) (c_Tr_become ht (hs.tree x) (by
      intro b h1 h2
      have := h1.2
      have := h2.1
      rcases ti_or x with q | q <;> omega)) (kn ?_) xn
    rintro h2 ⟨t2, f2⟩
    have s2 := hs.trial t2 f2
    refine e_Tc_apply_14  ?_
    refine e_Tc_apply_15 (Nat.le_of_ble_eq_true rfl) ?_
    refine e_Tc_apply_16  ?_
    refine e_Tc_apply_17 (Nat.le_of_ble_eq_true rfl) ?_
    exact l_Tc_apply ok hx hR s.2.2.2.length 0 rfl h2 _ s2 (f2.mono tS_c2) t2 (oks (ok.tree x)) rfl
  · unfold mapp
    rw [if_neg hx]
    refine tv_ct rfl (by decide +kernel) (by simp [Value.category]) (Nat.le_of_ble_eq_true rfl) ?_
    refine e_Tc_apply_0 rfl ?_
    refine e_Tc_apply_1 rfl ?_
    refine e_Tc_apply_2 (c := 0) (z := 0) (mc' := 1) (ms' := 6) hs.1 (by decide) (c_Tc_treeOf_no hx) rt (xo (xv_out rfl ⟨rfl, hs, fr.rf⟩))
theorem c_Tc_init (hh : h = [(4, [.null, .null, .null, .null, .null, .null, .null])]) : tv_Ct G mm_Tc_init [.ref 0] h 496 7612 (rn (fun h' => tcs h' ([], [], [], []) ∧ h'.length = 497)) := by
  subst hh
  refine tv_ct rfl (by decide +kernel) (by simp [Value.category]) (Nat.le_of_ble_eq_true rfl) ?_
  refine e_Tc_init_0 rfl ?_
  refine e_Tc_init_1 (by decide) ?_
  refine e_Tc_init_4 rfl ?_
  refine e_Tc_init_5 (c := 495) (z := 7610) ?_
  rw [show ([(4, [.null, .null, .null, .null, .null, .null, .null])] : tv_H).length = 1 from rfl]
  refine e_Tc_init_8 rfl ?_
  refine e_Tc_init_9 (c := 334) (z := 5930) (mc' := 161) (ms' := 1680) (Nat.le_of_ble_eq_true rfl) (c_Tr_init rfl rfl) nx (kn ?_)
  rintro h1 ⟨t1, g1⟩
  have j1 : h1[0]? = some (4, [.null, .null, .null, .null, .null, .null, .null]) := g1.2 0 (by decide)
  have k1 := gs_eq (e := (4, [.ref 1, .null, .null, .null, .null, .null, .null])) j1
  have l1 : (h1.set 0 (4, [.ref 1, .null, .null, .null, .null, .null, .null])).length = 163 := by rw [List.length_set]; exact g1.1
  have t1' : tr (h1.set 0 (4, [.ref 1, .null, .null, .null, .null, .null, .null])) 1 [] := t1.kept (S := fun b => b = 0) (fr.set rfl) (fun b hb => by have := hb.1; omega)
  refine e_Tc_init_12 j1 (Nat.le_of_ble_eq_true rfl) ?_
  refine e_Tc_init_15 rfl ?_
  refine e_Tc_init_16 (c := 333) (z := 5928) ?_
  refine e_Tc_init_19 rfl ?_
  rw [show (h1.set 0 (4, [Value.null, .null, .null, .null, .null, .null, .null].set 0 (.ref 1))).length = 163 from l1]
  refine e_Tc_init_20 (c := 172) (z := 4248) (mc' := 161) (ms' := 1680) (Nat.le_of_ble_eq_true rfl) (c_Tr_init (ap_eq l1) (ap_len l1)) nx (kn ?_)
  rintro h2 ⟨t2, g2⟩
  have j2 : h2[0]? = some (4, [.ref 1, .null, .null, .null, .null, .null, .null]) := (g2.2 0 (by decide)).trans ((ap_lt (Nat.lt_of_lt_of_eq (show 0 < 163 by decide) l1.symm)).trans k1)
  have a2 : gr 163 164 _ ((h1.set 0 (4, [.ref 1, .null, .null, .null, .null, .null, .null])) ++ [(3, [.null, .int 0])]) := ⟨ap_len l1, fun b hb => ap_lt (by omega)⟩
  have t12 := (t1'.gr a2 (by omega)).gr g2 (by omega)
  have k2 := gs_eq (e := (4, [.ref 1, .ref 163, .null, .null, .null, .null, .null])) j2
  have l2 : (h2.set 0 (4, [.ref 1, .ref 163, .null, .null, .null, .null, .null])).length = 325 := by rw [List.length_set]; exact g2.1
  have f2 : fr (fun b => b = 0) h2 (h2.set 0 (4, [.ref 1, .ref 163, .null, .null, .null, .null, .null])) := fr.set rfl
  have t12 := t12.kept f2 (fun b hb => by have := hb.1; omega)
  have t22 := t2.kept f2 (fun b hb => by have := hb.1; omega)
  refine e_Tc_init_23 j2 (Nat.le_of_ble_eq_true rfl) ?_
  refine e_Tc_init_26 rfl ?_
  refine e_Tc_init_27 (c := 171) (z := 4246) ?_
  refine e_Tc_init_30 rfl ?_
  rw [show (h2.set 0 (4, [Value.ref 1, .null, .null, .null, .null, .null, .null].set 1 (.ref 163))).length = 325 from l2]
  refine e_Tc_init_31 (c := 10) (z := 2566) (mc' := 161) (ms' := 1680) (Nat.le_of_ble_eq_true rfl) (c_Tr_init (ap_eq l2) (ap_len l2)) nx (kn ?_)
  rintro h3 ⟨t3, g3⟩
  have j3 : h3[0]? = some (4, [.ref 1, .ref 163, .null, .null, .null, .null, .null]) := (g3.2 0 (by decide)).trans ((ap_lt (Nat.lt_of_lt_of_eq (show 0 < 325 by decide) l2.symm)).trans k2)
  have a3 : gr 325 326 _ ((h2.set 0 (4, [.ref 1, .ref 163, .null, .null, .null, .null, .null])) ++ [(3, [.null, .int 0])]) := ⟨ap_len l2, fun b hb => ap_lt (by omega)⟩
  have t13 := (t12.gr a3 (by omega)).gr g3 (by omega)
  have t23 := (t22.gr a3 (by omega)).gr g3 (by omega)
  have k3 := gs_eq (e := (4, [.ref 1, .ref 163, .ref 325, .null, .null, .null, .null])) j3
  have l3 : (h3.set 0 (4, [.ref 1, .ref 163, .ref 325, .null, .null, .null, .null])).length = 487 := by rw [List.length_set]; exact g3.1
  have f3 : fr (fun b => b = 0) h3 (h3.set 0 (4, [.ref 1, .ref 163, .ref 325, .null, .null, .null, .null])) := fr.set rfl
  have t13 := t13.kept f3 (fun b hb => by have := hb.1; omega)
  have t23 := t23.kept f3 (fun b hb => by have := hb.1; omega)
  have t33 := t3.kept f3 (fun b hb => by have := hb.1; omega)
  refine e_Tc_init_34 j3 (Nat.le_of_ble_eq_true rfl) ?_
  refine e_Tc_init_37 rfl ?_
  refine e_Tc_init_38 (c := 9) (z := 2564) ?_
  refine e_Tc_init_41 rfl ?_
  rw [show (h3.set 0 (4, [Value.ref 1, .ref 163, .null, .null, .null, .null, .null].set 2 (.ref 325))).length = 487 from l3]
  refine e_Tc_init_42 (c := 8) (z := 2545) (mc' := 1) (ms' := 19) (Nat.le_of_ble_eq_true rfl) (c_Pa_init (ap_eq l3) (ap_len l3)) nx (kn ?_)
  rintro h4 ⟨p4, g4⟩
  have j4 : h4[0]? = some (4, [.ref 1, .ref 163, .ref 325, .null, .null, .null, .null]) := (g4.2 0 (by decide)).trans ((ap_lt (Nat.lt_of_lt_of_eq (show 0 < 487 by decide) l3.symm)).trans k3)
  have a4 : gr 487 488 _ ((h3.set 0 (4, [.ref 1, .ref 163, .ref 325, .null, .null, .null, .null])) ++ [(2, [.null, .int 0])]) := ⟨ap_len l3, fun b hb => ap_lt (by omega)⟩
  have t14 := (t13.gr a4 (by omega)).gr g4 (by omega)
  have t24 := (t23.gr a4 (by omega)).gr g4 (by omega)
  have t34 := (t33.gr a4 (by omega)).gr g4 (by omega)
  have k4 := gs_eq (e := (4, [.ref 1, .ref 163, .ref 325, .ref 487, .null, .null, .null])) j4
  have l4 : (h4.set 0 (4, [.ref 1, .ref 163, .ref 325, .ref 487, .null, .null, .null])).length = 489 := by rw [List.length_set]; exact g4.1
  have f4 : fr (fun b => b = 0) h4 (h4.set 0 (4, [.ref 1, .ref 163, .ref 325, .ref 487, .null, .null, .null])) := fr.set rfl
  have t14 := t14.kept f4 (fun b hb => by have := hb.1; omega)
  have t24 := t24.kept f4 (fun b hb => by have := hb.1; omega)
  have t34 := t34.kept f4 (fun b hb => by have := hb.1; omega)
  have p44 := p4.kept_fr f4 (by omega) (by omega)
  refine e_Tc_init_45 j4 (Nat.le_of_ble_eq_true rfl) ?_
  refine e_Tc_init_48 rfl ?_
  refine e_Tc_init_49 (c := 7) (z := 2543) ?_
  refine e_Tc_init_52 rfl ?_
  rw [show (h4.set 0 (4, [Value.ref 1, .ref 163, .ref 325, .null, .null, .null, .null].set 3 (.ref 487))).length = 489 from l4]
  refine e_Tc_init_53 (c := 6) (z := 2524) (mc' := 1) (ms' := 19) (Nat.le_of_ble_eq_true rfl) (c_Pa_init (ap_eq l4) (ap_len l4)) nx (kn ?_)
  rintro h5 ⟨p5, g5⟩
  have j5 : h5[0]? = some (4, [.ref 1, .ref 163, .ref 325, .ref 487, .null, .null, .null]) := (g5.2 0 (by decide)).trans ((ap_lt (Nat.lt_of_lt_of_eq (show 0 < 489 by decide) l4.symm)).trans k4)
  have a5 : gr 489 490 _ ((h4.set 0 (4, [.ref 1, .ref 163, .ref 325, .ref 487, .null, .null, .null])) ++ [(2, [.null, .int 0])]) := ⟨ap_len l4, fun b hb => ap_lt (by omega)⟩
  have t15 := (t14.gr a5 (by omega)).gr g5 (by omega)
  have t25 := (t24.gr a5 (by omega)).gr g5 (by omega)
  have t35 := (t34.gr a5 (by omega)).gr g5 (by omega)
  have p45 := (p44.gr a5 (by omega)).gr g5 (by omega)
  have k5 := gs_eq (e := (4, [.ref 1, .ref 163, .ref 325, .ref 487, .ref 489, .null, .null])) j5
  have l5 : (h5.set 0 (4, [.ref 1, .ref 163, .ref 325, .ref 487, .ref 489, .null, .null])).length = 491 := by rw [List.length_set]; exact g5.1
  have f5 : fr (fun b => b = 0) h5 (h5.set 0 (4, [.ref 1, .ref 163, .ref 325, .ref 487, .ref 489, .null, .null])) := fr.set rfl
  have t15 := t15.kept f5 (fun b hb => by have := hb.1; omega)
  have t25 := t25.kept f5 (fun b hb => by have := hb.1; omega)
  have t35 := t35.kept f5 (fun b hb => by have := hb.1; omega)
  have p45 := p45.kept_fr f5 (by omega) (by omega)
  have p55 := p5.kept_fr f5 (by omega) (by omega)
  refine e_Tc_init_56 j5 (Nat.le_of_ble_eq_true rfl) ?_
  refine e_Tc_init_59 rfl ?_
  refine e_Tc_init_60 (c := 5) (z := 2520) ?_
  refine e_Tc_init_63 rfl ?_
  rw [show (h5.set 0 (4, [Value.ref 1, .ref 163, .ref 325, .ref 487, .null, .null, .null].set 4 (.ref 489))).length = 491 from l5]
  refine e_Tc_init_64 (c := 2) (z := 2483) (mc' := 3) (ms' := 37) (Nat.le_of_ble_eq_true rfl) (c_En_init (ap_eq l5) (ap_len l5)) nx (kn ?_)
  rintro h6 ⟨e6, g6⟩
  have j6 : h6[0]? = some (4, [.ref 1, .ref 163, .ref 325, .ref 487, .ref 489, .null, .null]) := (g6.2 0 (by decide)).trans ((ap_lt (Nat.lt_of_lt_of_eq (show 0 < 491 by decide) l5.symm)).trans k5)
  have a6 : gr 491 492 _ ((h5.set 0 (4, [.ref 1, .ref 163, .ref 325, .ref 487, .ref 489, .null, .null])) ++ [(0, [.null, .int 0, .null, .int 0])]) := ⟨ap_len l5, fun b hb => ap_lt (by omega)⟩
  have t16 := (t15.gr a6 (by omega)).gr g6 (by omega)
  have t26 := (t25.gr a6 (by omega)).gr g6 (by omega)
  have t36 := (t35.gr a6 (by omega)).gr g6 (by omega)
  have p46 := (p45.gr a6 (by omega)).gr g6 (by omega)
  have p56 := (p55.gr a6 (by omega)).gr g6 (by omega)
  have k6 := gs_eq (e := (4, [.ref 1, .ref 163, .ref 325, .ref 487, .ref 489, .ref 491, .null])) j6
  have l6 : (h6.set 0 (4, [.ref 1, .ref 163, .ref 325, .ref 487, .ref 489, .ref 491, .null])).length = 495 := by rw [List.length_set]; exact g6.1
  have f6 : fr (fun b => b = 0) h6 (h6.set 0 (4, [.ref 1, .ref 163, .ref 325, .ref 487, .ref 489, .ref 491, .null])) := fr.set rfl
  have t16 := t16.kept f6 (fun b hb => by have := hb.1; omega)
  have t26 := t26.kept f6 (fun b hb => by have := hb.1; omega)
  have t36 := t36.kept f6 (fun b hb => by have := hb.1; omega)
  have p46 := p46.kept_fr f6 (by omega) (by omega)
  have p56 := p56.kept_fr f6 (by omega) (by omega)
  have e66 := e6.kept f6 (fun b hb => by have := hb.1; omega)
  refine e_Tc_init_67 j6 (Nat.le_of_ble_eq_true rfl) ?_
  refine e_Tc_init_70 rfl ?_
  refine e_Tc_init_71 (c := 1) (z := 2480) ?_
  refine e_Tc_init_74 rfl ?_
  rw [show (h6.set 0 (4, [Value.ref 1, .ref 163, .ref 325, .ref 487, .ref 489, .null, .null].set 5 (.ref 491))).length = 495 from l6]
  refine e_Tc_init_75 (c := 0) (z := 0) (mc' := 1) (ms' := 2480) (Nat.le_of_ble_eq_true rfl) (c_La_init (ap_eq l6) (ap_len l6)) nx (kn ?_)
  rintro h7 ⟨e7, g7⟩
  have j7 : h7[0]? = some (4, [.ref 1, .ref 163, .ref 325, .ref 487, .ref 489, .ref 491, .null]) := (g7.2 0 (by decide)).trans ((ap_lt (Nat.lt_of_lt_of_eq (show 0 < 495 by decide) l6.symm)).trans k6)
  have a7 : gr 495 496 _ ((h6.set 0 (4, [.ref 1, .ref 163, .ref 325, .ref 487, .ref 489, .ref 491, .null])) ++ [(1, [.null, .int 0, .int 0])]) := ⟨ap_len l6, fun b hb => ap_lt (by omega)⟩
  have f7 : fr (fun b => b = 0) h7 (h7.set 0 (4, [.ref 1, .ref 163, .ref 325, .ref 487, .ref 489, .ref 491, .ref 495])) := fr.set rfl
  refine e_Tc_init_78 j7 (Nat.le_of_ble_eq_true rfl) ?_
  refine e_Tc_init_81 ⟨rfl, ⟨gs_eq j7, ?_, ?_, ⟨[], ?_⟩, ?_, ⟨[], ?_⟩, ⟨[], 0, [], ?_⟩, ?_⟩, f7.1.trans g7.1⟩
  · exact ((t16.gr a7 (by omega)).gr g7 (by omega)).kept f7 (fun b hb => by have := hb.1; omega)
  · exact ((t26.gr a7 (by omega)).gr g7 (by omega)).kept f7 (fun b hb => by have := hb.1; omega)
  · exact ((t36.gr a7 (by omega)).gr g7 (by omega)).kept f7 (fun b hb => by have := hb.1; omega)
  · exact ((p46.gr a7 (by omega)).gr g7 (by omega)).kept_fr f7 (by omega) (by omega)
  · exact ((p56.gr a7 (by omega)).gr g7 (by omega)).kept_fr f7 (by omega) (by omega)
  · exact ((e66.gr a7 (by omega)).gr g7 (by omega)).kept f7 (fun b hb => by have := hb.1; omega)
  · exact e7.kept f7 (by omega) (by omega)
end
