/-! the law's helpers: a call of the class, its throws caught -/
abbrev oS : Nat → Prop := fun b => b < 497 ∨ b = 505
theorem tcs.keep {h h' : tv_H} {s : tT} {S : Nat → Prop} (hs : tcs h s) (hf : fr S h h') (hS : ∀ b, b < 497 → ¬ S b) : tcs h' s := by
  obtain ⟨h1, h2, h3, ⟨u, h4⟩, h5, ⟨q, h6⟩, ⟨q7, k7, c7, h7⟩, h8⟩ := hs
  exact ⟨(hf.2 0 (hS 0 (by omega))).trans h1, h2.kept hf (fun b hb => hS b (by have := hb.2; omega)), h3.kept hf (fun b hb => hS b (by have := hb.2; omega)), ⟨u, h4.kept hf (fun b hb => hS b (by have := hb.2; omega))⟩, h5.kept_fr hf (hS _ (by omega)) (hS _ (by omega)), ⟨q, h6.kept_fr hf (hS _ (by omega)) (hS _ (by omega))⟩, ⟨q7, k7, c7, h7.kept hf (fun b hb => hS b (by have := hb.2; omega))⟩, h8.kept hf (hS _ (by omega)) (hS _ (by omega))⟩
theorem msr.keep {h h' : tv_H} {th : Int32} {s : tT} {S : Nat → Prop} (hs : msr h th s) (hf : fr S h h') (hS : ∀ b, mS b → ¬ S b) : msr h' th s := by
  obtain ⟨M, h1, h2⟩ := hs
  exact ⟨M, h1.kept hf hS, h2⟩
/-- the class is at s', and the word holds v if nothing was thrown -/
def oP (h : tv_H) (s' : tT) (k : Nat) (v : Int32) : tv_H → Prop := fun h' => tcs h' s' ∧ fr oS h h' ∧ ∃ o, h'[505]? = some (102, [.long o]) ∧ (k = 0 → o = v.toInt64)
theorem rc_inl {E : Nat → String} {k : Nat} {v : Option Value} {P : tv_H → Prop} {X : Option Value → tv_H → Prop} (kk : ∀ h', k = 0 → P h' → X v h') : ∀ v' h', rc E k v P (.inl v') h' → X v' h' := by
  rintro v' h' ⟨e, hp⟩
  by_cases hk : k = 0
  · rw [if_pos hk] at e
    cases e
    exact kk h' hk hp
  · rw [if_neg hk] at e
    cases e
theorem rc_inr {E : Nat → String} {k : Nat} {v : Option Value} {P : tv_H → Prop} {X : String → tv_H → Prop} (kk : ∀ h', k ≠ 0 → P h' → X (E k) h') : ∀ E' h', rc E k v P (.inr E') h' → X E' h' := by
  rintro v' h' ⟨e, hp⟩
  by_cases hk : k = 0
  · rw [if_pos hk] at e
    cases e
  · rw [if_neg hk] at e
    cases e
    exact kk h' hk hp
theorem eX_1 : eX 1 = "java/lang/IllegalArgumentException" := rfl
theorem eX_2 : eX 2 = "java/lang/IllegalStateException" := rfl
theorem eX_3 : eX 3 = "java/lang/UnsupportedOperationException" := rfl
theorem eL_1 : eL 1 = "java/lang/IndexOutOfBoundsException" := rfl
theorem eE_1 : eE 1 = "java/lang/IllegalArgumentException" := rfl
theorem eE_2 : eE 2 = "java/lang/IndexOutOfBoundsException" := rfl
theorem o_set {h h1 : tv_H} {s' : tT} {k : Nat} {v : Int32} {o : Int64} (t1 : tcs h1 s') (f1 : fr cS h h1) (ho : h1[505]? = some (102, [.long o])) : oP h s' k v (h1.set 505 (102, [.long v.toInt64])) := ⟨t1.keep (S := fun b => b = 505) (fr.set rfl) (fun b hb e => by omega), (f1.mono (fun b hb => Or.inl hb)).tr (fr.set (Or.inr rfl)), v.toInt64, gs_eq ho, fun _ => rfl⟩
theorem o_kept {h h1 : tv_H} {s' : tT} {k : Nat} {v : Int32} {o : Int64} (t1 : tcs h1 s') (f1 : fr cS h h1) (ho : h1[505]? = some (102, [.long o])) (hk : k ≠ 0) : oP h s' k v h1 := ⟨t1, f1.mono (fun b hb => Or.inl hb), o, ho, fun q => absurd q hk⟩
section
variable {G : tv_G} {h h' : tv_H} {s : tT} {x y w a b d : Int32} {o : Int64}
theorem c_Lw_directory (hs : tcs h s) (ok : okX s) : tv_Ct G mm_Lw_directory [.ref 0, .int x] h 1 6 (rv (.int (nI (mdir s x).1)) (fun h' => tcs h' (mdir s x).2 ∧ fr cS h h')) := by
  refine tv_ctH (List.cons_ne_nil _ _) (by decide +kernel) (by simp [Value.category]) (Nat.le_of_ble_eq_true rfl) ?_
  refine e_Lw_directory_0 rfl ?_
  refine e_Lw_directory_1 rfl ?_
  refine e_Lw_directory_2 (c := 0) (z := 0) (mc' := 1) (ms' := 6) hs.1 (Nat.le_of_ble_eq_true rfl) (c_Tc_directory hs ok.S) (rc_inl ?_) (rc_inr ?_)
  · intro h1 hk hp
    refine e_Lw_directory_5 ?_
    refine e_Lw_directory_17 ?_
    exact e_Lw_directory_18 ⟨by rw [hk]; rfl, hp⟩
  · intro h1 hk hp
    have hle := mdir_le (s := s) (x := x)
    rcases (show (mdir s x).1 = 1 ∨ (mdir s x).1 = 2 ∨ (mdir s x).1 = 3 by omega) with q | q | q
    · rw [q, eX_1]
      refine xv_catch "java/lang/IllegalArgumentException" [] ⟨0, 5, 8, 13⟩ [⟨0, 5, 11, 15⟩, ⟨0, 5, 14, 17⟩] rfl (fun y hy => by cases hy) rfl (by decide) tw_197 tw_210 (fun a_ => ?_)
      refine e_Lw_directory_8 (Nat.le_of_ble_eq_true rfl) ?_
      refine e_Lw_directory_9 ?_
      exact e_Lw_directory_10 ⟨rfl, hp⟩
    · rw [q, eX_2]
      refine xv_catch "java/lang/IllegalStateException" [⟨0, 5, 8, 13⟩] ⟨0, 5, 11, 15⟩ [⟨0, 5, 14, 17⟩] rfl (fun y hy => by cases List.mem_singleton.mp hy; exact Or.inr ⟨by decide, _, tw_197, by decide +kernel⟩) rfl (by decide) tw_198 tw_300 (fun a_ => ?_)
      refine e_Lw_directory_11 (Nat.le_of_ble_eq_true rfl) ?_
      refine e_Lw_directory_12 ?_
      exact e_Lw_directory_13 ⟨rfl, hp⟩
    · rw [q, eX_3]
      refine xv_catch "java/lang/UnsupportedOperationException" [⟨0, 5, 8, 13⟩, ⟨0, 5, 11, 15⟩] ⟨0, 5, 14, 17⟩ [] rfl (fun y hy => by
        rcases List.mem_cons.mp hy with e | e
        · cases e; exact Or.inr ⟨by decide, _, tw_197, by decide +kernel⟩
        · cases List.mem_singleton.mp e; exact Or.inr ⟨by decide, _, tw_198, by decide +kernel⟩) rfl (by decide) tw_199 tw_320 (fun a_ => ?_)
      refine e_Lw_directory_14 (Nat.le_of_ble_eq_true rfl) ?_
      refine e_Lw_directory_15 ?_
      exact e_Lw_directory_16 ⟨rfl, hp⟩
theorem c_Lw_file (hs : tcs h s) (ok : okX s) : tv_Ct G mm_Lw_file [.ref 0, .int x, .int w] h 1 6 (rv (.int (nI (mfil s x w).1)) (fun h' => tcs h' (mfil s x w).2 ∧ fr cS h h')) := by
  refine tv_ctH (List.cons_ne_nil _ _) (by decide +kernel) (by simp [Value.category]) (Nat.le_of_ble_eq_true rfl) ?_
  refine e_Lw_file_0 rfl ?_
  refine e_Lw_file_1 rfl ?_
  refine e_Lw_file_2 rfl ?_
  refine e_Lw_file_3 (c := 0) (z := 0) (mc' := 1) (ms' := 6) hs.1 (Nat.le_of_ble_eq_true rfl) (c_Tc_file hs ok.S) (rc_inl ?_) (rc_inr ?_)
  · intro h1 hk hp
    refine e_Lw_file_6 ?_
    refine e_Lw_file_18 ?_
    exact e_Lw_file_19 ⟨by rw [hk]; rfl, hp⟩
  · intro h1 hk hp
    have hle := mfil_le (s := s) (x := x) (w := w)
    rcases (show (mfil s x w).1 = 1 ∨ (mfil s x w).1 = 2 ∨ (mfil s x w).1 = 3 by omega) with q | q | q
    · rw [q, eX_1]
      refine xv_catch "java/lang/IllegalArgumentException" [] ⟨0, 6, 9, 13⟩ [⟨0, 6, 12, 15⟩, ⟨0, 6, 15, 17⟩] rfl (fun y hy => by cases hy) rfl (by decide) tw_197 tw_210 (fun a_ => ?_)
      refine e_Lw_file_9 (Nat.le_of_ble_eq_true rfl) ?_
      refine e_Lw_file_10 ?_
      exact e_Lw_file_11 ⟨rfl, hp⟩
    · rw [q, eX_2]
      refine xv_catch "java/lang/IllegalStateException" [⟨0, 6, 9, 13⟩] ⟨0, 6, 12, 15⟩ [⟨0, 6, 15, 17⟩] rfl (fun y hy => by cases List.mem_singleton.mp hy; exact Or.inr ⟨by decide, _, tw_197, by decide +kernel⟩) rfl (by decide) tw_198 tw_300 (fun a_ => ?_)
      refine e_Lw_file_12 (Nat.le_of_ble_eq_true rfl) ?_
      refine e_Lw_file_13 ?_
      exact e_Lw_file_14 ⟨rfl, hp⟩
    · rw [q, eX_3]
      refine xv_catch "java/lang/UnsupportedOperationException" [⟨0, 6, 9, 13⟩, ⟨0, 6, 12, 15⟩] ⟨0, 6, 15, 17⟩ [] rfl (fun y hy => by
        rcases List.mem_cons.mp hy with e | e
        · cases e; exact Or.inr ⟨by decide, _, tw_197, by decide +kernel⟩
        · cases List.mem_singleton.mp e; exact Or.inr ⟨by decide, _, tw_198, by decide +kernel⟩) rfl (by decide) tw_199 tw_320 (fun a_ => ?_)
      refine e_Lw_file_15 (Nat.le_of_ble_eq_true rfl) ?_
      refine e_Lw_file_16 ?_
      exact e_Lw_file_17 ⟨rfl, hp⟩
theorem c_Lw_add (hs : tcs h s) (ok : okX s) : tv_Ct G mm_Lw_add [.ref 0, .int x, .int w] h 1 6 (rv (.int (nI (madd s x w).1)) (fun h' => tcs h' (madd s x w).2 ∧ fr cS h h')) := by
  refine tv_ctH (List.cons_ne_nil _ _) (by decide +kernel) (by simp [Value.category]) (Nat.le_of_ble_eq_true rfl) ?_
  refine e_Lw_add_0 rfl ?_
  refine e_Lw_add_1 rfl ?_
  refine e_Lw_add_2 rfl ?_
  refine e_Lw_add_3 (c := 0) (z := 0) (mc' := 1) (ms' := 6) hs.1 (Nat.le_of_ble_eq_true rfl) (c_Tc_add hs ok.S) (rc_inl ?_) (rc_inr ?_)
  · intro h1 hk hp
    refine e_Lw_add_6 ?_
    refine e_Lw_add_18 ?_
    exact e_Lw_add_19 ⟨by rw [hk]; rfl, hp⟩
  · intro h1 hk hp
    have hle := madd_le (s := s) (x := x) (w := w)
    rcases (show (madd s x w).1 = 1 ∨ (madd s x w).1 = 2 ∨ (madd s x w).1 = 3 by omega) with q | q | q
    · rw [q, eX_1]
      refine xv_catch "java/lang/IllegalArgumentException" [] ⟨0, 6, 9, 13⟩ [⟨0, 6, 12, 15⟩, ⟨0, 6, 15, 17⟩] rfl (fun y hy => by cases hy) rfl (by decide) tw_197 tw_210 (fun a_ => ?_)
      refine e_Lw_add_9 (Nat.le_of_ble_eq_true rfl) ?_
      refine e_Lw_add_10 ?_
      exact e_Lw_add_11 ⟨rfl, hp⟩
    · rw [q, eX_2]
      refine xv_catch "java/lang/IllegalStateException" [⟨0, 6, 9, 13⟩] ⟨0, 6, 12, 15⟩ [⟨0, 6, 15, 17⟩] rfl (fun y hy => by cases List.mem_singleton.mp hy; exact Or.inr ⟨by decide, _, tw_197, by decide +kernel⟩) rfl (by decide) tw_198 tw_300 (fun a_ => ?_)
      refine e_Lw_add_12 (Nat.le_of_ble_eq_true rfl) ?_
      refine e_Lw_add_13 ?_
      exact e_Lw_add_14 ⟨rfl, hp⟩
    · rw [q, eX_3]
      refine xv_catch "java/lang/UnsupportedOperationException" [⟨0, 6, 9, 13⟩, ⟨0, 6, 12, 15⟩] ⟨0, 6, 15, 17⟩ [] rfl (fun y hy => by
        rcases List.mem_cons.mp hy with e | e
        · cases e; exact Or.inr ⟨by decide, _, tw_197, by decide +kernel⟩
        · cases List.mem_singleton.mp e; exact Or.inr ⟨by decide, _, tw_198, by decide +kernel⟩) rfl (by decide) tw_199 tw_320 (fun a_ => ?_)
      refine e_Lw_add_15 (Nat.le_of_ble_eq_true rfl) ?_
      refine e_Lw_add_16 ?_
      exact e_Lw_add_17 ⟨rfl, hp⟩
theorem c_Lw_remove (hs : tcs h s) (ok : okX s) : tv_Ct G mm_Lw_remove [.ref 0, .int x] h 1 6 (rv (.int (nI (mrem s x).1)) (fun h' => tcs h' (mrem s x).2 ∧ fr cS h h')) := by
  refine tv_ctH (List.cons_ne_nil _ _) (by decide +kernel) (by simp [Value.category]) (Nat.le_of_ble_eq_true rfl) ?_
  refine e_Lw_remove_0 rfl ?_
  refine e_Lw_remove_1 rfl ?_
  refine e_Lw_remove_2 (c := 0) (z := 0) (mc' := 1) (ms' := 6) hs.1 (Nat.le_of_ble_eq_true rfl) (c_Tc_remove hs ok.S) (rc_inl ?_) (rc_inr ?_)
  · intro h1 hk hp
    refine e_Lw_remove_5 ?_
    refine e_Lw_remove_14 ?_
    exact e_Lw_remove_15 ⟨by rw [hk]; rfl, hp⟩
  · intro h1 hk hp
    have hle := mrem_le (s := s) (x := x)
    rcases (show (mrem s x).1 = 1 ∨ (mrem s x).1 = 2 by omega) with q | q
    · rw [q, eX_1]
      refine xv_catch "java/lang/IllegalArgumentException" [] ⟨0, 5, 8, 13⟩ [⟨0, 5, 11, 15⟩] rfl (fun y hy => by cases hy) rfl (by decide) tw_197 tw_210 (fun a_ => ?_)
      refine e_Lw_remove_8 (Nat.le_of_ble_eq_true rfl) ?_
      refine e_Lw_remove_9 ?_
      exact e_Lw_remove_10 ⟨rfl, hp⟩
    · rw [q, eX_2]
      refine xv_catch "java/lang/IllegalStateException" [⟨0, 5, 8, 13⟩] ⟨0, 5, 11, 15⟩ [] rfl (fun y hy => by cases List.mem_singleton.mp hy; exact Or.inr ⟨by decide, _, tw_197, by decide +kernel⟩) rfl (by decide) tw_198 tw_300 (fun a_ => ?_)
      refine e_Lw_remove_11 (Nat.le_of_ble_eq_true rfl) ?_
      refine e_Lw_remove_12 ?_
      exact e_Lw_remove_13 ⟨rfl, hp⟩
theorem c_Lw_move (hs : tcs h s) (ok : okX s) : tv_Ct G mm_Lw_move [.ref 0, .int x, .int a, .int b, .int d] h 1 6 (rv (.int (nI (mmov s x a b d).1)) (fun h' => tcs h' (mmov s x a b d).2 ∧ fr cS h h')) := by
  refine tv_ctH (List.cons_ne_nil _ _) (by decide +kernel) (by simp [Value.category]) (Nat.le_of_ble_eq_true rfl) ?_
  refine e_Lw_move_0 rfl ?_
  refine e_Lw_move_1 rfl ?_
  refine e_Lw_move_2 rfl ?_
  refine e_Lw_move_3 rfl ?_
  refine e_Lw_move_4 rfl ?_
  refine e_Lw_move_6 (c := 0) (z := 0) (mc' := 1) (ms' := 6) hs.1 (Nat.le_of_ble_eq_true rfl) (c_Tc_move hs ok.S (fun hw hc => mv_hlen (ok.tree x) hw hc)) (rc_inl ?_) (rc_inr ?_)
  · intro h1 hk hp
    refine e_Lw_move_9 ?_
    refine e_Lw_move_20 ?_
    exact e_Lw_move_21 ⟨by rw [hk]; rfl, hp⟩
  · intro h1 hk hp
    have hle := mmov_le (s := s) (x := x) (a := a) (b := b) (d := d)
    rcases (show (mmov s x a b d).1 = 1 ∨ (mmov s x a b d).1 = 2 by omega) with q | q
    · rw [q, eX_1]
      refine xv_catch "java/lang/IllegalArgumentException" [] ⟨0, 9, 12, 13⟩ [⟨0, 9, 16, 15⟩] rfl (fun y hy => by cases hy) rfl (by decide) tw_197 tw_210 (fun a_ => ?_)
      refine e_Lw_move_12 (Nat.le_of_ble_eq_true rfl) ?_
      refine e_Lw_move_14 ?_
      exact e_Lw_move_15 ⟨rfl, hp⟩
    · rw [q, eX_2]
      refine xv_catch "java/lang/IllegalStateException" [⟨0, 9, 12, 13⟩] ⟨0, 9, 16, 15⟩ [] rfl (fun y hy => by cases List.mem_singleton.mp hy; exact Or.inr ⟨by decide, _, tw_197, by decide +kernel⟩) rfl (by decide) tw_198 tw_300 (fun a_ => ?_)
      refine e_Lw_move_16 (Nat.le_of_ble_eq_true rfl) ?_
      refine e_Lw_move_18 ?_
      exact e_Lw_move_19 ⟨rfl, hp⟩
theorem c_Lw_copy (hs : tcs h s) (ok : okX s) : tv_Ct G mm_Lw_copy [.ref 0, .int x, .int y] h 1 6 (rv (.int (nI (mcpy s x y).1)) (fun h' => tcs h' (mcpy s x y).2 ∧ fr cS h h')) := by
  refine tv_ctH (List.cons_ne_nil _ _) (by decide +kernel) (by simp [Value.category]) (Nat.le_of_ble_eq_true rfl) ?_
  refine e_Lw_copy_0 rfl ?_
  refine e_Lw_copy_1 rfl ?_
  refine e_Lw_copy_2 rfl ?_
  refine e_Lw_copy_3 (c := 0) (z := 0) (mc' := 1) (ms' := 6) hs.1 (Nat.le_of_ble_eq_true rfl) (c_Tc_copy hs) (rc_inl ?_) (rc_inr ?_)
  · intro h1 hk hp
    refine e_Lw_copy_6 ?_
    refine e_Lw_copy_12 ?_
    exact e_Lw_copy_13 ⟨by rw [hk]; rfl, hp⟩
  · intro h1 hk hp
    have hle := mcpy_le (s := s) (x := x) (y := y)
    have q : (mcpy s x y).1 = 1 := by omega
    rw [q, eX_1]
    refine xv_catch "java/lang/IllegalArgumentException" [] ⟨0, 6, 9, 13⟩ [] rfl (fun y hy => by cases hy) rfl (by decide) tw_197 tw_210 (fun a_ => ?_)
    refine e_Lw_copy_9 (Nat.le_of_ble_eq_true rfl) ?_
    refine e_Lw_copy_10 ?_
    exact e_Lw_copy_11 ⟨rfl, hp⟩
theorem c_Lw_apply (hs : tcs h s) (ok : okX s) : tv_Ct G mm_Lw_apply [.ref 0, .int x] h 1 6 (rv (.int (nI (mapp s x).1)) (fun h' => tcs h' (mapp s x).2 ∧ fr cS h h')) := by
  refine tv_ctH (List.cons_ne_nil _ _) (by decide +kernel) (by simp [Value.category]) (Nat.le_of_ble_eq_true rfl) ?_
  refine e_Lw_apply_0 rfl ?_
  refine e_Lw_apply_1 rfl ?_
  refine e_Lw_apply_2 (c := 0) (z := 0) (mc' := 1) (ms' := 6) hs.1 (Nat.le_of_ble_eq_true rfl) (c_Tc_apply hs ok.S) (rc_inl ?_) (rc_inr ?_)
  · intro h1 hk hp
    refine e_Lw_apply_5 ?_
    refine e_Lw_apply_14 ?_
    exact e_Lw_apply_15 ⟨by rw [hk]; rfl, hp⟩
  · intro h1 hk hp
    have hle := mapp_le (s := s) (x := x)
    rcases (show (mapp s x).1 = 1 ∨ (mapp s x).1 = 2 by omega) with q | q
    · rw [q, eX_1]
      refine xv_catch "java/lang/IllegalArgumentException" [] ⟨0, 5, 8, 13⟩ [⟨0, 5, 11, 15⟩] rfl (fun y hy => by cases hy) rfl (by decide) tw_197 tw_210 (fun a_ => ?_)
      refine e_Lw_apply_8 (Nat.le_of_ble_eq_true rfl) ?_
      refine e_Lw_apply_9 ?_
      exact e_Lw_apply_10 ⟨rfl, hp⟩
    · rw [q, eX_2]
      refine xv_catch "java/lang/IllegalStateException" [⟨0, 5, 8, 13⟩] ⟨0, 5, 11, 15⟩ [] rfl (fun y hy => by cases List.mem_singleton.mp hy; exact Or.inr ⟨by decide, _, tw_197, by decide +kernel⟩) rfl (by decide) tw_198 tw_300 (fun a_ => ?_)
      refine e_Lw_apply_11 (Nat.le_of_ble_eq_true rfl) ?_
      refine e_Lw_apply_12 ?_
      exact e_Lw_apply_13 ⟨rfl, hp⟩
theorem c_Lw_changes (hs : tcs h s) (ok : okX s) (ho : h[505]? = some (102, [.long o])) : tv_Ct G mm_Lw_changes [.ref 0, .int x, .ref 505] h 1 6 (rv (.int (nI (mchg s x).1)) (oP h (mchg s x).2 (mchg s x).1 (nI (lyb (mchg s x).2).length))) := by
  refine tv_ctH (List.cons_ne_nil _ _) (by decide +kernel) (by simp [Value.category]) (Nat.le_of_ble_eq_true rfl) ?_
  refine e_Lw_changes_0 rfl ?_
  refine e_Lw_changes_1 ?_
  refine e_Lw_changes_2 rfl ?_
  refine e_Lw_changes_3 rfl ?_
  refine e_Lw_changes_4 (c := 0) (z := 0) (mc' := 1) (ms' := 6) hs.1 (Nat.le_of_ble_eq_true rfl) (c_Tc_changes hs ok.S) (rc_inl ?_) (rc_inr ?_)
  · rintro h1 hk ⟨t1, f1⟩
    have ho1 := (f1.2 505 (fun q => absurd (show 505 < 497 from q) (by decide))).trans ho
    refine e_Lw_changes_7 ?_
    refine e_Lw_changes_8 0 ho1 rfl (Nat.le_of_ble_eq_true rfl) (Nat.le_of_ble_eq_true rfl) ?_
    refine e_Lw_changes_9 ?_
    refine e_Lw_changes_15 ?_
    exact e_Lw_changes_16 ⟨by rw [hk]; rfl, o_set t1 f1 ho1⟩
  · rintro h1 hk ⟨t1, f1⟩
    have ho1 := (f1.2 505 (fun q => absurd (show 505 < 497 from q) (by decide))).trans ho
    have hle := mchg_le (s := s) (x := x)
    have q : (mchg s x).1 = 1 := by omega
    rw [q, eX_1]
    refine xv_catch "java/lang/IllegalArgumentException" [] ⟨0, 9, 12, 13⟩ [] rfl (fun y hy => by cases hy) rfl (by decide) tw_197 tw_210 (fun a_ => ?_)
    refine e_Lw_changes_12 (Nat.le_of_ble_eq_true rfl) ?_
    refine e_Lw_changes_13 ?_
    exact e_Lw_changes_14 ⟨rfl, o_kept t1 f1 ho1 (by decide)⟩
theorem c_Lw_layer (hs : tcs h s) (ok : okX s) (ho : h[505]? = some (102, [.long o])) : tv_Ct G mm_Lw_layer [.ref 0, .int x, .ref 505] h 1 6 (rv (.int (nI (mlay s x).1)) (oP h s (mlay s x).1 (mlay s x).2)) := by
  refine tv_ctH (List.cons_ne_nil _ _) (by decide +kernel) (by simp [Value.category]) (Nat.le_of_ble_eq_true rfl) ?_
  refine e_Lw_layer_0 rfl ?_
  refine e_Lw_layer_1 ?_
  refine e_Lw_layer_2 rfl ?_
  refine e_Lw_layer_3 rfl ?_
  refine e_Lw_layer_4 (c := 0) (z := 0) (mc' := 1) (ms' := 6) hs.1 (Nat.le_of_ble_eq_true rfl) (c_Tc_layer hs) (rc_inl ?_) (rc_inr ?_)
  · rintro h1 hk ⟨t1, f1⟩
    have ho1 := (f1.2 505 (fun q => absurd (show 505 < 497 from q) (by decide))).trans ho
    refine e_Lw_layer_7 ?_
    refine e_Lw_layer_8 0 ho1 rfl (Nat.le_of_ble_eq_true rfl) (Nat.le_of_ble_eq_true rfl) ?_
    refine e_Lw_layer_9 ?_
    refine e_Lw_layer_15 ?_
    exact e_Lw_layer_16 ⟨by rw [hk]; rfl, o_set t1 f1 ho1⟩
  · rintro h1 hk ⟨t1, f1⟩
    have ho1 := (f1.2 505 (fun q => absurd (show 505 < 497 from q) (by decide))).trans ho
    have hle := mlay_le (s := s) (x := x)
    have q : (mlay s x).1 = 1 := by omega
    rw [q, eL_1]
    refine xv_catch "java/lang/IndexOutOfBoundsException" [] ⟨0, 9, 12, 43⟩ [] rfl (fun y hy => by cases hy) rfl (by decide) tw_497 tw_504 (fun a_ => ?_)
    refine e_Lw_layer_12 (Nat.le_of_ble_eq_true rfl) ?_
    refine e_Lw_layer_13 ?_
    exact e_Lw_layer_14 ⟨rfl, o_kept t1 f1 ho1 (by decide)⟩
theorem c_Lw_entries (hs : tcs h s) (ok : okX s) (ho : h[505]? = some (102, [.long o])) : tv_Ct G mm_Lw_entries [.ref 0, .int x, .ref 505] h 1 6 (rv (.int (nI (if it x then 0 else 1))) (oP h s (if it x then 0 else 1) (nI (gt s x).length))) := by
  refine tv_ctH (List.cons_ne_nil _ _) (by decide +kernel) (by simp [Value.category]) (Nat.le_of_ble_eq_true rfl) ?_
  refine e_Lw_entries_0 rfl ?_
  refine e_Lw_entries_1 ?_
  refine e_Lw_entries_2 rfl ?_
  refine e_Lw_entries_3 rfl ?_
  refine e_Lw_entries_4 (c := 0) (z := 0) (mc' := 1) (ms' := 6) hs.1 (Nat.le_of_ble_eq_true rfl) (c_Tc_entries hs) (rc_inl ?_) (rc_inr ?_)
  · rintro h1 hk rfl
    refine e_Lw_entries_7 ?_
    refine e_Lw_entries_8 0 ho rfl (Nat.le_of_ble_eq_true rfl) (Nat.le_of_ble_eq_true rfl) ?_
    refine e_Lw_entries_9 ?_
    refine e_Lw_entries_15 ?_
    exact e_Lw_entries_16 ⟨by rw [hk]; rfl, o_set hs fr.rf ho⟩
  · rintro h1 hk rfl
    have hle : (if it x then 0 else 1) ≤ 1 := by split <;> omega
    have q : (if it x then 0 else 1) = 1 := by omega
    rw [q, eX_1]
    refine xv_catch "java/lang/IllegalArgumentException" [] ⟨0, 9, 12, 13⟩ [] rfl (fun y hy => by cases hy) rfl (by decide) tw_197 tw_210 (fun a_ => ?_)
    refine e_Lw_entries_12 (Nat.le_of_ble_eq_true rfl) ?_
    refine e_Lw_entries_13 ?_
    exact e_Lw_entries_14 ⟨rfl, o_kept hs fr.rf ho (by decide)⟩
theorem c_Lw_entry (hs : tcs h s) (ok : okX s) (ho : h[505]? = some (102, [.long o])) : tv_Ct G mm_Lw_entry [.ref 0, .int x, .int y, .int w, .ref 505] h 1 6 (rv (.int (nI (ment s x y w).1)) (oP h s (ment s x y w).1 (ment s x y w).2)) := by
  refine tv_ctH (List.cons_ne_nil _ _) (by decide +kernel) (by simp [Value.category]) (Nat.le_of_ble_eq_true rfl) ?_
  refine e_Lw_entry_0 rfl ?_
  refine e_Lw_entry_2 ?_
  refine e_Lw_entry_3 rfl ?_
  refine e_Lw_entry_4 rfl ?_
  refine e_Lw_entry_5 rfl ?_
  refine e_Lw_entry_6 rfl ?_
  refine e_Lw_entry_7 (c := 0) (z := 0) (mc' := 1) (ms' := 6) hs.1 (Nat.le_of_ble_eq_true rfl) (c_Tc_entry hs) (rc_inl ?_) (rc_inr ?_)
  · rintro h1 hk rfl
    refine e_Lw_entry_10 ?_
    refine e_Lw_entry_11 0 ho rfl (Nat.le_of_ble_eq_true rfl) (Nat.le_of_ble_eq_true rfl) ?_
    refine e_Lw_entry_12 ?_
    refine e_Lw_entry_23 ?_
    exact e_Lw_entry_24 ⟨by rw [hk]; rfl, o_set hs fr.rf ho⟩
  · rintro h1 hk rfl
    have hle := ment_le (s := s) (x := x) (y := y) (w := w)
    rcases (show (ment s x y w).1 = 1 ∨ (ment s x y w).1 = 2 by omega) with q | q
    · rw [q, eE_1]
      refine xv_catch "java/lang/IllegalArgumentException" [] ⟨0, 12, 15, 13⟩ [⟨0, 12, 19, 43⟩] rfl (fun y hy => by cases hy) rfl (by decide) tw_197 tw_210 (fun a_ => ?_)
      refine e_Lw_entry_15 (Nat.le_of_ble_eq_true rfl) ?_
      refine e_Lw_entry_17 ?_
      exact e_Lw_entry_18 ⟨rfl, o_kept hs fr.rf ho (by decide)⟩
    · rw [q, eE_2]
      refine xv_catch "java/lang/IndexOutOfBoundsException" [⟨0, 12, 15, 13⟩] ⟨0, 12, 19, 43⟩ [] rfl (fun y hy => by cases List.mem_singleton.mp hy; exact Or.inr ⟨by decide, _, tw_197, by decide +kernel⟩) rfl (by decide) tw_497 tw_504 (fun a_ => ?_)
      refine e_Lw_entry_19 (Nat.le_of_ble_eq_true rfl) ?_
      refine e_Lw_entry_21 ?_
      exact e_Lw_entry_22 ⟨rfl, o_kept hs fr.rf ho (by decide)⟩
end
