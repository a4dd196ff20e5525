/-! TreeChanges: file, add, remove, move, copy -/
def madd (s : tT) (x w : Int32) : Nat × tT := if it x then (match fx (gt s x) s.2.2.1 with
  | none => (2, s)
  | some i => match (gt s x)[i]? with
    | none => (2, s)
    | some f => if f.2.1 = 2 then (if 16 < f.2.2.length + (wbk w 4).length then (3, s) else (0, st s x ((gt s x).set i (f.1, f.2.1, f.2.2 ++ wbk w 4)))) else (2, s)) else (1, s)
def mrem (s : tT) (x : Int32) : Nat × tT := if it x then (if fx (gt s x) s.2.2.1 = none then (2, s) else (0, st s x (dr s.2.2.1 true (gt s x)))) else (1, s)
def mmov (s : tT) (x a b d : Int32) : Nat × tT := if it x ∧ wf (w3 a b d) = true then (if csh (gt s x) s.2.2.1 (w3 a b d) then (0, st s x (sft s.2.2.1 (w3 a b d) (gt s x))) else (2, s)) else (1, s)
def mcpy (s : tT) (x y : Int32) : Nat × tT := if it x ∧ it y then (0, st s y (gt s x)) else (1, s)
theorem tS_i {x : Int32} {d : Nat} (hd : 486 < d) : ¬ tS (ti x) d := by
  intro w
  have := w.2
  rcases ti_or x with g | g <;> rw [g] at this <;> omega
theorem eS_c : ∀ b, eS 491 b → cS b := fun b hb => by have := hb.2; show b < 497; omega
theorem pS_c {a : Nat} (ha : a < 496) : ∀ b, pS a b → cS b := by rintro b (w | w) <;> show b < 497 <;> omega
theorem tS_c2 : ∀ b, tS 325 b → cS b := fun b hb => by have := hb.2; show b < 497; omega
section
variable {G : tv_G} {h h' : tv_H} {s : tT} {x y w : Int32} {c z : Nat}
theorem c_Tc_file (hs : tcs h s) (ok : okS s) : tv_Ct G mm_Tc_file [.ref 0, .int x, .int w] h 1 6 (rc eX (mfil s x w).1 none (fun h' => tcs h' (mfil s x w).2 ∧ fr cS h h')) := by
  unfold mfil
  by_cases hx : it x
  · rw [if_pos hx]
    have ht := hs.tree x
    have okt := ok.tree x
    have hp := hs.2.2.2.2.1
    have sp := ok.sm
    obtain ⟨_, i1, -⟩ := id hp
    obtain ⟨rs, t1, -⟩ := ht.row
    have hR : ∃ R, R = (if s.2.2.1 = [] ∨ ¬ hpl (gt s x) s.2.2.1 ∨ kx (gt s x) s.2.2.1 = 1 then (2, s) else if fx (gt s x) s.2.2.1 = none ∧ (gt s x).length = 40 then (3, s) else (0, st s x (pu (gt s x) (s.2.2.1, 2, wbk w 4)))) := ⟨_, rfl⟩
    obtain ⟨R, hR⟩ := hR
    rw [← hR]
    refine tv_ct rfl (by decide +kernel) (by simp [Value.category]) (Nat.le_of_ble_eq_true rfl) ?_
    refine e_Tc_file_0 rfl ?_
    refine e_Tc_file_1 rfl ?_
    refine e_Tc_file_2 (mc' := 0) (ms' := 0) hs.1 (by decide) (c_Tc_treeOf hs hx) (kp ?_) xn
    have bad : (s.2.2.1 = [] ∨ ¬ hpl (gt s x) s.2.2.1 ∨ kx (gt s x) s.2.2.1 = 1) → ∀ ls, tv_Ev G mm_Tc_file 27 ls [] h 1 6 (rc eX R.1 none (fun h' => tcs h' R.2 ∧ fr cS h h')) := by
      intro hb ls
      rw [if_pos hb] at hR
      rw [hR]
      exact e_Tc_file_27 (c := 0) (z := 0) ⟨rfl, hs, fr.rf⟩
    refine e_Tc_file_5 (Nat.le_of_ble_eq_true rfl) ?_
    refine e_Tc_file_6 rfl ?_
    refine e_Tc_file_7 hs.1 rfl ?_
    refine e_Tc_file_10 i1 (by decide) (c_Pa_isNone hp) (kp ?_) xn
    by_cases g1 : s.2.2.1 = []
    · rw [if_pos g1]
      refine e_Tc_file_13 (fun _ => ?_) (fun c1 => absurd c1 (by decide))
      exact bad (Or.inl g1) _
    rw [if_neg g1]
    refine e_Tc_file_13 (fun c1 => absurd rfl c1) (fun _ => ?_)
    refine e_Tc_file_16 rfl ?_
    refine e_Tc_file_17 rfl ?_
    refine e_Tc_file_18 hs.1 rfl ?_
    refine e_Tc_file_21 t1 (by decide) (c_Tr_hasPlaceFor ht (oks okt) hp sp g1) (kp ?_) xn
    by_cases g3 : hpl (gt s x) s.2.2.1
    · rw [if_pos g3]
      refine e_Tc_file_24 (fun _ => ?_) (fun c1 => absurd c1 (by decide))
      refine e_Tc_file_37 rfl ?_
      refine e_Tc_file_38 rfl ?_
      refine e_Tc_file_39 hs.1 rfl ?_
      refine e_Tc_file_42 t1 (by decide) (c_Tr_kindOf ht (oks okt) hp sp) (kp ?_) xn
      refine e_Tc_file_45 (Nat.le_of_ble_eq_true rfl) ?_
      refine e_Tc_file_47 rfl ?_
      refine e_Tc_file_49  ?_
      refine e_Tc_file_50 (fun c1 => ?_) (fun c1 => ?_)
      · rw [if_neg (show ¬ (s.2.2.1 = [] ∨ ¬ hpl (gt s x) s.2.2.1 ∨ kx (gt s x) s.2.2.1 = 1) from by rintro (q | q | q); exact g1 q; exact q g3; exact c1 q)] at hR
        have main : ¬ (fx (gt s x) s.2.2.1 = none ∧ (gt s x).length = 40) → tv_Ev G mm_Tc_file 86 [some (.ref 0), some (.int x), some (.int w), some (.ref (ti x)), some (.int (kx (gt s x) s.2.2.1))] [] h 1 6 (rc eX R.1 none (fun h' => tcs h' R.2 ∧ fr cS h h')) := by
          intro hn
          rw [if_neg hn] at hR
          rw [hR]
          obtain ⟨q7, k7, c7, h7⟩ := hs.2.2.2.2.2.2.1
          refine e_Tc_file_86 rfl ?_
          refine e_Tc_file_87 hs.1 rfl ?_
          refine e_Tc_file_90 rfl ?_
          refine e_Tc_file_91 hs.1 rfl ?_
          refine e_Tc_file_94  ?_
          refine e_Tc_file_95 h7.1 (by decide) (c_En_begin h7 hp (by omega)) (kn ?_) xn
          rintro h2 ⟨e2, f2⟩
          have s2 := hs.item e2 f2
          refine e_Tc_file_98 rfl ?_
          refine e_Tc_file_99 s2.1 rfl ?_
          refine e_Tc_file_102 rfl ?_
          refine e_Tc_file_103 e2.1 (by decide) (c_En_appendWord e2 w (by have := wbk_len w 4; simp; omega)) (kn ?_) xn
          rintro h3 ⟨e3, f3⟩
          have s3 := s2.item e3 f3
          rw [List.nil_append] at e3
          obtain ⟨_, t3, -⟩ := (s3.tree x).row
          refine e_Tc_file_106 rfl ?_
          refine e_Tc_file_107 rfl ?_
          refine e_Tc_file_108 s3.1 rfl ?_
          refine e_Tc_file_111 t3 (by decide) (c_Tr_put (s3.tree x) (oks okt) e3 sp (fun d hd => tS_i (by have := hd.1; omega))) (kv ?_) xn
          rintro h4 ⟨t4, f4⟩
          refine e_Tc_file_114 rfl ?_
          exact e_Tc_file_115 ⟨rfl, s3.upd t4 f4, ((f2.mono eS_c).tr (f3.mono eS_c)).tr (f4.mono tS_c)⟩
        refine e_Tc_file_63 rfl ?_
        refine e_Tc_file_65  ?_
        refine e_Tc_file_66 (fun c2 => main (fun q => c2 ((kx_m1 okt).mpr q.1))) (fun c2 => ?_)
        refine e_Tc_file_69 rfl ?_
        refine e_Tc_file_70 t1 (by decide) (c_Tr_isFull ht) (kp ?_) xn
        by_cases g4 : (gt s x).length = 40
        · rw [if_pos g4]
          refine e_Tc_file_73 (fun c3 => absurd c3 (by decide)) (fun _ => ?_)
          rw [if_pos ⟨(kx_m1 okt).mp c2, g4⟩] at hR
          rw [hR]
          exact e_Tc_file_76 (c := 0) (z := 0) ⟨rfl, hs, fr.rf⟩
        · rw [if_neg g4]
          refine e_Tc_file_73 (fun _ => ?_) (fun c3 => absurd rfl c3)
          exact main (fun q => g4 q.2)
      · rw [if_pos (show s.2.2.1 = [] ∨ ¬ hpl (gt s x) s.2.2.1 ∨ kx (gt s x) s.2.2.1 = 1 from Or.inr (Or.inr c1))] at hR
        rw [hR]
        exact e_Tc_file_53 (c := 0) (z := 0) ⟨rfl, hs, fr.rf⟩
    · rw [if_neg g3]
      refine e_Tc_file_24 (fun c1 => absurd rfl c1) (fun _ => ?_)
      exact bad (Or.inr (Or.inl g3)) _
  · rw [if_neg hx]
    refine tv_ct rfl (by decide +kernel) (by simp [Value.category]) (Nat.le_of_ble_eq_true rfl) ?_
    refine e_Tc_file_0 rfl ?_
    refine e_Tc_file_1 rfl ?_
    refine e_Tc_file_2 (c := 0) (z := 0) (mc' := 1) (ms' := 6) hs.1 (by decide) (c_Tc_treeOf_no hx) rt (xo (xv_out rfl ⟨rfl, hs, fr.rf⟩))
theorem l_Tc_bytesIn : ∀ j k, j + k = 4 → tv_Ev G mm_Tc_bytesIn 4 [some (.int w), some (.int (nI (wbk w k).length)), some (.int (nI k))] [] h c z (rv (.int (nI (wbk w 4).length)) (fun h' => h' = h)) := by
  intro j
  induction j with
  | zero =>
    intro k hk
    have hk : k = 4 := by omega
    subst hk
    refine e_Tc_bytesIn_4 rfl ?_
    refine e_Tc_bytesIn_5  ?_
    refine e_Tc_bytesIn_6 (fun _ => ?_) (fun c1 => absurd (by decide) c1)
    refine e_Tc_bytesIn_26 rfl ?_
    exact e_Tc_bytesIn_27 ⟨rfl, rfl⟩
  | succ j ih =>
    intro k hk
    have hi := ih (k + 1) (by omega)
    rw [wbk_s, nI_succ] at hi
    refine e_Tc_bytesIn_4 rfl ?_
    refine e_Tc_bytesIn_5  ?_
    refine e_Tc_bytesIn_6 (fun c1 => absurd c1 (nI_ge (b := 4) (by omega) (by decide))) (fun _ => ?_)
    refine e_Tc_bytesIn_9 rfl ?_
    refine e_Tc_bytesIn_10 rfl ?_
    refine e_Tc_bytesIn_11 (by decide) (c_Tc_byteOf w (by omega)) (kp ?_) xn
    refine e_Tc_bytesIn_14 (fun c1 => ?_) (fun c1 => ?_)
    · have h0 : wb w k = 0 := (nI_eq (by have := wb_lt w k; omega) (by omega)).mp (c1.trans nI_0.symm)
      rw [if_pos h0, List.append_nil] at hi
      refine e_Tc_bytesIn_20 rfl ?_
      refine e_Tc_bytesIn_23  ?_
      exact hi
    · have h0 : wb w k ≠ 0 := fun e => c1 (by rw [e]; rfl)
      rw [if_neg h0, List.length_append, List.length_singleton, nI_succ] at hi
      refine e_Tc_bytesIn_17 rfl ?_
      refine e_Tc_bytesIn_20 rfl ?_
      refine e_Tc_bytesIn_23  ?_
      exact hi
theorem c_Tc_bytesIn : tv_Ct G mm_Tc_bytesIn [.int w] h 0 0 (rv (.int (nI (wbk w 4).length)) (fun h' => h' = h)) := by
  refine tv_ct rfl (by decide +kernel) (by simp [Value.category]) (Nat.le_of_ble_eq_true rfl) ?_
  refine e_Tc_bytesIn_0  ?_
  refine e_Tc_bytesIn_1 (Nat.le_of_ble_eq_true rfl) ?_
  refine e_Tc_bytesIn_2  ?_
  refine e_Tc_bytesIn_3 (Nat.le_of_ble_eq_true rfl) ?_
  exact l_Tc_bytesIn 4 0 rfl
theorem c_Tc_add (hs : tcs h s) (ok : okS s) : tv_Ct G mm_Tc_add [.ref 0, .int x, .int w] h 1 6 (rc eX (madd s x w).1 none (fun h' => tcs h' (madd s x w).2 ∧ fr cS h h')) := by
  have hR : ∃ R, R = madd s x w := ⟨_, rfl⟩
  obtain ⟨R, hR⟩ := hR
  rw [← hR]
  unfold madd at hR
  by_cases hx : it x
  · rw [if_pos hx] at hR
    have ht := hs.tree x
    have hl := ht.len
    have okt := ok.tree x
    have hp := hs.2.2.2.2.1
    have sp := ok.sm
    obtain ⟨rs, t1, -⟩ := ht.row
    have bad : R = (2, s) → ∀ ls, tv_Ev G mm_Tc_add 36 ls [] h 1 6 (rc eX R.1 none (fun h' => tcs h' R.2 ∧ fr cS h h')) := by
      intro hb ls
      rw [hb]
      exact e_Tc_add_36 (c := 0) (z := 0) ⟨rfl, hs, fr.rf⟩
    refine tv_ct rfl (by decide +kernel) (by simp [Value.category]) (Nat.le_of_ble_eq_true rfl) ?_
    refine e_Tc_add_0 rfl ?_
    refine e_Tc_add_1 rfl ?_
    refine e_Tc_add_2 (mc' := 0) (ms' := 0) hs.1 (by decide) (c_Tc_treeOf hs hx) (kp ?_) xn
    refine e_Tc_add_5 (Nat.le_of_ble_eq_true rfl) ?_
    refine e_Tc_add_6 rfl ?_
    refine e_Tc_add_7 rfl ?_
    refine e_Tc_add_8 hs.1 rfl ?_
    refine e_Tc_add_11 t1 (by decide) (c_Tr_find ht (oks okt) hp sp) (kp ?_) xn
    refine e_Tc_add_14 (Nat.le_of_ble_eq_true rfl) ?_
    refine e_Tc_add_16 rfl ?_
    refine e_Tc_add_18  ?_
    cases hf : fx (gt s x) s.2.2.1 with
    | none =>
      rw [hf] at hR
      refine e_Tc_add_19 (fun _ => ?_) (fun c1 => absurd rfl c1)
      exact bad hR _
    | some i =>
      obtain ⟨f, hfi, hfp⟩ := fx_lt hf
      have hil := (List.getElem?_eq_some_iff.mp hfi).1
      rw [hf] at hR
      simp only [hfi] at hR
      obtain ⟨us, r, jj, u1, u2, u3, hr, e1, hjj, hrj, up⟩ := ht.at hfi
      refine e_Tc_add_19 (fun c1 => absurd c1 (m1_nI (by omega))) (fun _ => ?_)
      refine e_Tc_add_22 rfl ?_
      refine e_Tc_add_23 u1 rfl ?_
      refine e_Tc_add_26 rfl ?_
      refine e_Tc_add_28 i u2 rfl (map_get hr) (by rw [List.length_map]; omega) ?_
      refine e_Tc_add_29 e1.1 rfl ?_
      refine e_Tc_add_32  ?_
      have hwl := wbk_len w 4
      have hc16 := e1.len
      refine e_Tc_add_33 (fun c1 => ?_) (fun c1 => ?_)
      · rw [if_pos c1] at hR
        refine e_Tc_add_46 rfl ?_
        refine e_Tc_add_47 u1 rfl ?_
        refine e_Tc_add_50 rfl ?_
        refine e_Tc_add_52 i u2 rfl (map_get hr) (by rw [List.length_map]; omega) ?_
        refine e_Tc_add_53 e1.1 rfl ?_
        refine e_Tc_add_56 rfl ?_
        refine e_Tc_add_57 (mc' := 0) (ms' := 0) (Nat.le_of_ble_eq_true rfl) c_Tc_bytesIn (kp ?_) xn
        refine e_Tc_add_60  ?_
        refine e_Tc_add_61  ?_
        rw [nI_add]
        refine e_Tc_add_63 (fun c2 => ?_) (fun c2 => ?_)
        · have c2 := (nI_leI (b := 16) (by omega) (by decide)).mp c2
          rw [if_neg (by omega)] at hR
          rw [hR]
          refine e_Tc_add_76 rfl ?_
          refine e_Tc_add_77 u1 rfl ?_
          refine e_Tc_add_80 rfl ?_
          refine e_Tc_add_82 i u2 rfl (map_get hr) (by rw [List.length_map]; omega) ?_
          refine e_Tc_add_83 rfl ?_
          refine e_Tc_add_84 e1.1 (by decide) (c_En_appendWord e1 w c2) (kn ?_) xn
          rintro h2 ⟨e2, f2⟩
          exact e_Tc_add_87 ⟨rfl, hs.upd (up h2 (f.1, f.2.1, f.2.2 ++ wbk w 4) e2 f2) (f2.mono (fun b hb => ⟨by have := hb.1; omega, by have := hb.2; omega⟩)), f2.mono (fun b hb => tS_c (x := x) b ⟨by have := hb.1; omega, by have := hb.2; omega⟩)⟩
        · have c2 : 16 < f.2.2.length + (wbk w 4).length := by
            rcases Nat.lt_or_ge 16 (f.2.2.length + (wbk w 4).length) with q | q
            · exact q
            · exact absurd (nI_le q (by decide)) c2
          rw [if_pos c2] at hR
          rw [hR]
          exact e_Tc_add_66 (c := 0) (z := 0) ⟨rfl, hs, fr.rf⟩
      · rw [if_neg c1] at hR
        exact bad hR _
  · rw [if_neg hx] at hR
    rw [hR]
    refine tv_ct rfl (by decide +kernel) (by simp [Value.category]) (Nat.le_of_ble_eq_true rfl) ?_
    refine e_Tc_add_0 rfl ?_
    refine e_Tc_add_1 rfl ?_
    refine e_Tc_add_2 (c := 0) (z := 0) (mc' := 1) (ms' := 6) hs.1 (by decide) (c_Tc_treeOf_no hx) rt (xo (xv_out rfl ⟨rfl, hs, fr.rf⟩))
theorem c_Tc_remove (hs : tcs h s) (ok : okS s) : tv_Ct G mm_Tc_remove [.ref 0, .int x] h 1 6 (rc eX (mrem s x).1 none (fun h' => tcs h' (mrem s x).2 ∧ fr cS h h')) := by
  unfold mrem
  by_cases hx : it x
  · rw [if_pos hx]
    have ht := hs.tree x
    have okt := ok.tree x
    have hp := hs.2.2.2.2.1
    have sp := ok.sm
    obtain ⟨rs, t1, -⟩ := ht.row
    refine tv_ct rfl (by decide +kernel) (by simp [Value.category]) (Nat.le_of_ble_eq_true rfl) ?_
    refine e_Tc_remove_0 rfl ?_
    refine e_Tc_remove_1 rfl ?_
    refine e_Tc_remove_2 (mc' := 0) (ms' := 0) hs.1 (by decide) (c_Tc_treeOf hs hx) (kp ?_) xn
    refine e_Tc_remove_5 (Nat.le_of_ble_eq_true rfl) ?_
    refine e_Tc_remove_6 rfl ?_
    refine e_Tc_remove_7 rfl ?_
    refine e_Tc_remove_8 hs.1 rfl ?_
    refine e_Tc_remove_11 t1 (by decide) (c_Tr_find ht (oks okt) hp sp) (kp ?_) xn
    refine e_Tc_remove_14  ?_
    by_cases hf : fx (gt s x) s.2.2.1 = none
    · rw [if_pos hf, hf]
      refine e_Tc_remove_15 (fun c1 => absurd rfl c1) (fun _ => ?_)
      exact e_Tc_remove_18 (c := 0) (z := 0) ⟨rfl, hs, fr.rf⟩
    · rw [if_neg hf]
      refine e_Tc_remove_15 (fun c1 => ?_) (fun c1 => absurd ((ox_m1 (fx_small ht)).mp c1) hf)
      refine e_Tc_remove_28 rfl ?_
      refine e_Tc_remove_29 rfl ?_
      refine e_Tc_remove_30 hs.1 rfl ?_
      refine e_Tc_remove_33  ?_
      refine e_Tc_remove_34 t1 (by decide) (c_Tr_drop true ht (oks okt) hp sp (by rcases ti_or x with g | g <;> omega) (by rcases ti_or x with g | g <;> omega)) (kn ?_) xn
      rintro h2 ⟨t2, f2⟩
      have f3 : fr (tS (ti x)) h h2 := f2.mono (by rintro b (q | q) <;> exact ⟨by omega, by omega⟩)
      exact e_Tc_remove_37 ⟨rfl, hs.upd t2 f3, f3.mono tS_c⟩
  · rw [if_neg hx]
    refine tv_ct rfl (by decide +kernel) (by simp [Value.category]) (Nat.le_of_ble_eq_true rfl) ?_
    refine e_Tc_remove_0 rfl ?_
    refine e_Tc_remove_1 rfl ?_
    refine e_Tc_remove_2 (c := 0) (z := 0) (mc' := 1) (ms' := 6) hs.1 (by decide) (c_Tc_treeOf_no hx) rt (xo (xv_out rfl ⟨rfl, hs, fr.rf⟩))
theorem c_Tc_move {a b d : Int32} (hs : tcs h s) (ok : okS s) (hlen : wf (w3 a b d) = true → csh (gt s x) s.2.2.1 (w3 a b d) → ∀ f ∈ gt s x, f.1 = s.2.2.1 ∨ bw f.1 s.2.2.1 → f.1.length - s.2.2.1.length + (w3 a b d).length ≤ 19) : tv_Ct G mm_Tc_move [.ref 0, .int x, .int a, .int b, .int d] h 1 6 (rc eX (mmov s x a b d).1 none (fun h' => tcs h' (mmov s x a b d).2 ∧ fr cS h h')) := by
  unfold mmov
  by_cases hx : it x
  · have okt := ok.tree x
    have sp := ok.sm
    obtain ⟨q, hq⟩ := hs.2.2.2.2.2.1
    obtain ⟨_, i1, -⟩ := id hq
    refine tv_ct rfl (by decide +kernel) (by simp [Value.category]) (Nat.le_of_ble_eq_true rfl) ?_
    refine e_Tc_move_0 rfl ?_
    refine e_Tc_move_1 rfl ?_
    refine e_Tc_move_2 (mc' := 0) (ms' := 0) hs.1 (by decide) (c_Tc_treeOf hs hx) (kp ?_) xn
    refine e_Tc_move_5 (Nat.le_of_ble_eq_true rfl) ?_
    refine e_Tc_move_7 rfl ?_
    refine e_Tc_move_8 hs.1 rfl ?_
    refine e_Tc_move_11 rfl ?_
    refine e_Tc_move_12 rfl ?_
    refine e_Tc_move_13 rfl ?_
    refine e_Tc_move_15 i1 (by decide) (c_Pa_readSigns hq a b d) (kv ?_) xn
    rintro h2 ⟨p2, f2⟩
    have s2 := hs.other p2 f2
    have fc := f2.mono (pS_c (a := 489) (by omega))
    by_cases hw : wf (w3 a b d) = true
    · rw [if_pos hw, if_pos (⟨hx, hw⟩ : it x ∧ wf (w3 a b d) = true)]
      unfold w3p at p2
      rw [if_pos hw] at p2
      refine e_Tc_move_18 (fun _ => ?_) (fun c1 => absurd c1 (by decide))
      have ht := s2.tree x
      have hp := s2.2.2.2.2.1
      obtain ⟨rs, t1, -⟩ := ht.row
      refine e_Tc_move_31 rfl ?_
      refine e_Tc_move_33 rfl ?_
      refine e_Tc_move_34 s2.1 rfl ?_
      refine e_Tc_move_37 rfl ?_
      refine e_Tc_move_38 s2.1 rfl ?_
      refine e_Tc_move_41 t1 (by decide) (c_Tr_canShift ht (oks okt) hp p2 sp (wf_sm hw) (wf_ne hw)) (kp ?_) xn
      by_cases g1 : csh (gt s x) s.2.2.1 (w3 a b d)
      · rw [if_pos g1, if_pos g1]
        refine e_Tc_move_44 (fun _ => ?_) (fun c1 => absurd c1 (by decide))
        refine e_Tc_move_57 rfl ?_
        refine e_Tc_move_59 rfl ?_
        refine e_Tc_move_60 s2.1 rfl ?_
        refine e_Tc_move_63 rfl ?_
        refine e_Tc_move_64 s2.1 rfl ?_
        refine e_Tc_move_67 t1 (by decide) (c_Tr_shift ht (oks okt) hp p2 sp (wf_sm hw) (tS_i (by omega)) (tS_i (by omega)) (tS_i (by omega)) (tS_i (by omega)) (hlen hw g1)) (kn ?_) xn
        rintro h3 ⟨t3, f3⟩
        exact e_Tc_move_70 ⟨rfl, s2.upd t3 f3, fc.tr (f3.mono tS_c)⟩
      · rw [if_neg g1, if_neg g1]
        refine e_Tc_move_44 (fun c1 => absurd rfl c1) (fun _ => ?_)
        exact e_Tc_move_47 (c := 0) (z := 0) ⟨rfl, s2, fc⟩
    · rw [if_neg hw, if_neg (show ¬ (it x ∧ wf (w3 a b d) = true) from fun q => hw q.2)]
      refine e_Tc_move_18 (fun c1 => absurd rfl c1) (fun _ => ?_)
      exact e_Tc_move_21 (c := 0) (z := 0) ⟨rfl, s2, fc⟩
  · rw [if_neg (show ¬ (it x ∧ wf (w3 a b d) = true) from fun q => hx q.1)]
    refine tv_ct rfl (by decide +kernel) (by simp [Value.category]) (Nat.le_of_ble_eq_true rfl) ?_
    refine e_Tc_move_0 rfl ?_
    refine e_Tc_move_1 rfl ?_
    refine e_Tc_move_2 (c := 0) (z := 0) (mc' := 1) (ms' := 6) hs.1 (by decide) (c_Tc_treeOf_no hx) rt (xo (xv_out rfl ⟨rfl, hs, fr.rf⟩))
theorem c_Tc_copy (hs : tcs h s) : tv_Ct G mm_Tc_copy [.ref 0, .int x, .int y] h 1 6 (rc eX (mcpy s x y).1 none (fun h' => tcs h' (mcpy s x y).2 ∧ fr cS h h')) := by
  unfold mcpy
  by_cases hx : it x
  · refine tv_ct rfl (by decide +kernel) (by simp [Value.category]) (Nat.le_of_ble_eq_true rfl) ?_
    refine e_Tc_copy_0 rfl ?_
    refine e_Tc_copy_1 rfl ?_
    refine e_Tc_copy_2 (mc' := 0) (ms' := 0) hs.1 (by decide) (c_Tc_treeOf hs hx) (kp ?_) xn
    refine e_Tc_copy_5 (Nat.le_of_ble_eq_true rfl) ?_
    refine e_Tc_copy_6 rfl ?_
    refine e_Tc_copy_7 rfl ?_
    by_cases hy : it y
    · rw [if_pos (⟨hx, hy⟩ : it x ∧ it y)]
      obtain ⟨rs, t1, -⟩ := (hs.tree y).row
      refine e_Tc_copy_8 (mc' := 0) (ms' := 0) hs.1 (by decide) (c_Tc_treeOf hs hy) (kp ?_) xn
      refine e_Tc_copy_11 rfl ?_
      by_cases g : ti x = ti y
      · have e1 := hs.tree x
        rw [g] at e1 ⊢
        refine e_Tc_copy_12 t1 (by decide) (c_Tr_become_self e1) (kn ?_) xn
        rintro h2 ⟨t2, f2⟩
        exact e_Tc_copy_15 ⟨rfl, hs.upd t2 f2, f2.mono tS_c⟩
      · refine e_Tc_copy_12 t1 (by decide) (c_Tr_become (hs.tree y) (hs.tree x) (by
          intro b h1 h2
          have := h1.1
          have := h1.2
          have := h2.1
          have := h2.2
          rcases ti_or x with q | q <;> rcases ti_or y with q2 | q2 <;> omega)) (kn ?_) xn
        rintro h2 ⟨t2, f2⟩
        exact e_Tc_copy_15 ⟨rfl, hs.upd t2 f2, f2.mono tS_c⟩
    · rw [if_neg (show ¬ (it x ∧ it y) from fun q => hy q.2)]
      refine e_Tc_copy_8 (c := 0) (z := 0) (mc' := 1) (ms' := 6) hs.1 (by decide) (c_Tc_treeOf_no hy) rt (xo (xv_out rfl ⟨rfl, hs, fr.rf⟩))
  · rw [if_neg (show ¬ (it x ∧ it y) from fun q => hx q.1)]
    refine tv_ct rfl (by decide +kernel) (by simp [Value.category]) (Nat.le_of_ble_eq_true rfl) ?_
    refine e_Tc_copy_0 rfl ?_
    refine e_Tc_copy_1 rfl ?_
    refine e_Tc_copy_2 (c := 0) (z := 0) (mc' := 1) (ms' := 6) hs.1 (by decide) (c_Tc_treeOf_no hx) rt (xo (xv_out rfl ⟨rfl, hs, fr.rf⟩))
end
