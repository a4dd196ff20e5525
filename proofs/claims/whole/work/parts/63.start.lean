/-! the start: what the statement gives, as the walk asks for it -/
theorem st_arr {s : State} {args : Array Value} {t : FieldType} (hp : t.toString = t.toString) (h : (Cond.arrayClass t).before args s = true) (hr : ∀ cA, s.vm.findClass ("[" ++ t.toString) = some cA → va_RA s cA t) : ∃ cA, ArrOfT s cA t ∧ va_RA s cA t := by
  obtain ⟨cA, kA, comp, h1, h2, h3⟩ := Cond.arrayClass_spec h
  exact ⟨cA, fun n z => ⟨fun k h => (by cases h), kA, h2, comp, h3⟩, hr cA h1⟩
theorem st_arrO {s : State} {C : String} (h : va_AO C s) : ∃ cA, ArrOfT s cA (.object C) ∧ va_RA s cA (.object C) := by
  obtain ⟨comp, cA, kA, h1, h2, h3, h4, h5⟩ := Cond.arrayOver_spec h
  exact ⟨cA, fun n z => ⟨fun k h => (by cases h), kA, h3, comp, h4⟩, kA, comp, h3, h4, h1, h5⟩
set_option maxRecDepth 100000 in
theorem tv_start {s : State} {b L : Nat} {xs : Nat → Int32} (hts : ∀ w ∈ lw_tbl, w.before #[Value.ref b] s = true) (hgv : (Jvm.Cond.and given_1 narrow_1).before #[Value.ref b] s = true) (hX : va_X b L xs s s.heap) (hbl : b < s.heap.size) : ∃ (D : va_G) (ct : Nat → ClassId), tv_S (b, L, xs) D ct (fun q => s.heap.size ≤ q) s := by
  have hTB : ∀ w ∈ tc_TB, w.before #[Value.ref b] s = true := fun w hw => hts w (List.mem_filter.mp hw).1
  have hg := flat_of_before _ hgv
  obtain ⟨c0, i0, k0⟩ := u_known (C := tc_R0) (T := tc_T0) (N := 4) (n := 4) hTB (tc_all 0 _ _ _ rfl).2.1 (hTB _ tw_32)
  obtain ⟨c1, i1, k1⟩ := u_known (C := tc_R1) (T := tc_T1) (N := 3) (n := 3) hTB (tc_all 1 _ _ _ rfl).2.1 (hTB _ tw_89)
  obtain ⟨c2, i2, k2⟩ := u_known (C := tc_R2) (T := tc_T2) (N := 2) (n := 2) hTB (tc_all 2 _ _ _ rfl).2.1 (hTB _ tw_38)
  obtain ⟨c3, i3, k3⟩ := u_known (C := tc_R3) (T := tc_T3) (N := 2) (n := 2) hTB (tc_all 3 _ _ _ rfl).2.1 (hTB _ tw_25)
  obtain ⟨c4, i4, k4⟩ := u_known (C := tc_R4) (T := tc_T4) (N := 7) (n := 7) hTB (tc_all 4 _ _ _ rfl).2.1 (hTB _ tw_17)
  obtain ⟨c5, i5, k5⟩ := u_known (C := tc_R5) (T := tc_T5) (N := 9) (n := 9) hTB (tc_all 5 _ _ _ rfl).2.1 (hTB _ tw_568)
  have hAO : va_AO "TreeChanges$Entry" s := va_AO.of (A := #[Value.ref b]) (by first | exact hts _ (by decide +kernel) | exact hg _ (by decide +kernel))
  obtain ⟨t0, a0⟩ := st_arr rfl (hTB _ tw_52) (fun cA h => h)
  obtain ⟨t1, a1⟩ := st_arr rfl (hTB _ tw_601) (fun cA h => h)
  obtain ⟨t2, a2⟩ := st_arr rfl (hTB _ tw_762) (fun cA h => h)
  obtain ⟨t3, a3⟩ := st_arrO hAO
  refine ⟨(fun k => if k = 0 then c0 else if k = 1 then c1 else if k = 2 then c2 else if k = 3 then c3 else if k = 4 then c4 else c5, fun k => if k = 0 then i0 else if k = 1 then i1 else if k = 2 then i2 else if k = 3 then i3 else if k = 4 then i4 else i5), fun k => if k = 0 then t0 else if k = 1 then t1 else if k = 2 then t2 else t3, ⟨?_, ?_⟩, ?_, hAO, ?_, vx_Zqof (args := #[Value.ref b]) ?_ ?_ ?_ ?_, vx_Zqof (args := #[Value.ref b]) ?_ ?_ ?_ ?_, hX, hbl, Nat.not_le.mpr hbl⟩
  · intro k q hq
    match k, hq with
    | 0, hq => cases hq; exact k0
    | 1, hq => cases hq; exact k1
    | 2, hq => cases hq; exact k2
    | 3, hq => cases hq; exact k3
    | 4, hq => cases hq; exact k4
    | 5, hq => cases hq; exact k5
    | k + 6, hq => cases hq
  · intro k q hq
    match k, hq with
    | 0, hq => cases hq; exact a0
    | 1, hq => cases hq; exact a1
    | 2, hq => cases hq; exact a2
    | 3, hq => cases hq; exact a3
    | k + 4, hq => cases hq
  · have str : ∀ q : Nat × String, (Cond.stringRef "TreeChanges" q.1 q.2).before #[Value.ref b] s = true → ∃ a, vk_R "TreeChanges" q.1 q.2 a s := by
      intro q h
      obtain ⟨-, -, -, a, -, -, -, -, -, hev⟩ := Cond.stringRef_spec k4.2.1 h
      exact ⟨a, vk_R.of h hev⟩
    intro q hq
    refine str q ?_
    rcases List.mem_cons.mp hq with e | hq
    · cases e
      first | exact hts _ (by decide +kernel) | exact hg _ (by decide +kernel)
    rcases List.mem_cons.mp hq with e | hq
    · cases e
      first | exact hts _ (by decide +kernel) | exact hg _ (by decide +kernel)
    rcases List.mem_cons.mp hq with e | hq
    · cases e
      first | exact hts _ (by decide +kernel) | exact hg _ (by decide +kernel)
    rcases List.mem_cons.mp hq with e | hq
    · cases e
      first | exact hts _ (by decide +kernel) | exact hg _ (by decide +kernel)
    rcases List.mem_cons.mp hq with e | hq
    · cases e
      first | exact hts _ (by decide +kernel) | exact hg _ (by decide +kernel)
    rcases List.mem_cons.mp hq with e | hq
    · cases e
      first | exact hts _ (by decide +kernel) | exact hg _ (by decide +kernel)
    rcases List.mem_cons.mp hq with e | hq
    · cases e
      first | exact hts _ (by decide +kernel) | exact hg _ (by decide +kernel)
    rcases List.mem_cons.mp hq with e | hq
    · cases e
      first | exact hts _ (by decide +kernel) | exact hg _ (by decide +kernel)
    rcases List.mem_cons.mp hq with e | hq
    · cases e
      first | exact hts _ (by decide +kernel) | exact hg _ (by decide +kernel)
    rcases List.mem_cons.mp hq with e | hq
    · cases e
      first | exact hts _ (by decide +kernel) | exact hg _ (by decide +kernel)
    rcases List.mem_cons.mp hq with e | hq
    · cases e
      first | exact hts _ (by decide +kernel) | exact hg _ (by decide +kernel)
    rcases List.mem_cons.mp hq with e | hq
    · cases e
      first | exact hts _ (by decide +kernel) | exact hg _ (by decide +kernel)
    rcases List.mem_cons.mp hq with e | hq
    · cases e
      first | exact hts _ (by decide +kernel) | exact hg _ (by decide +kernel)
    rcases List.mem_cons.mp hq with e | hq
    · cases e
      first | exact hts _ (by decide +kernel) | exact hg _ (by decide +kernel)
    · cases hq
  · intro q hq
    refine va_Nc.of (args := #[Value.ref b]) ?_
    rcases List.mem_cons.mp hq with e | hq
    · cases e
      first | exact hts _ (by decide +kernel) | exact hg _ (by decide +kernel)
    rcases List.mem_cons.mp hq with e | hq
    · cases e
      first | exact hts _ (by decide +kernel) | exact hg _ (by decide +kernel)
    rcases List.mem_cons.mp hq with e | hq
    · cases e
      first | exact hts _ (by decide +kernel) | exact hg _ (by decide +kernel)
    rcases List.mem_cons.mp hq with e | hq
    · cases e
      first | exact hts _ (by decide +kernel) | exact hg _ (by decide +kernel)
    rcases List.mem_cons.mp hq with e | hq
    · cases e
      first | exact hts _ (by decide +kernel) | exact hg _ (by decide +kernel)
    rcases List.mem_cons.mp hq with e | hq
    · cases e
      first | exact hts _ (by decide +kernel) | exact hg _ (by decide +kernel)
    rcases List.mem_cons.mp hq with e | hq
    · cases e
      first | exact hts _ (by decide +kernel) | exact hg _ (by decide +kernel)
    rcases List.mem_cons.mp hq with e | hq
    · cases e
      first | exact hts _ (by decide +kernel) | exact hg _ (by decide +kernel)
    rcases List.mem_cons.mp hq with e | hq
    · cases e
      first | exact hts _ (by decide +kernel) | exact hg _ (by decide +kernel)
    rcases List.mem_cons.mp hq with e | hq
    · cases e
      first | exact hts _ (by decide +kernel) | exact hg _ (by decide +kernel)
    rcases List.mem_cons.mp hq with e | hq
    · cases e
      first | exact hts _ (by decide +kernel) | exact hg _ (by decide +kernel)
    rcases List.mem_cons.mp hq with e | hq
    · cases e
      first | exact hts _ (by decide +kernel) | exact hg _ (by decide +kernel)
    · cases hq
  · first | exact hts (.laysStatic "java/lang/Throwable" "UNASSIGNED_STACK" _) (by decide +kernel) | exact hg (.laysStatic "java/lang/Throwable" "UNASSIGNED_STACK" _) (by decide +kernel)
  · exact hTB _ tw_7
  · first | exact hts (.isRef (.static "java/lang/Throwable" "UNASSIGNED_STACK" _)) (by decide +kernel) | exact hg (.isRef (.static "java/lang/Throwable" "UNASSIGNED_STACK" _)) (by decide +kernel)
  · exact fun a h => Nat.not_le.mpr h
  · first | exact hts (.laysStatic "java/lang/Throwable" "SUPPRESSED_SENTINEL" _) (by decide +kernel) | exact hg (.laysStatic "java/lang/Throwable" "SUPPRESSED_SENTINEL" _) (by decide +kernel)
  · exact hTB _ tw_7
  · first | exact hts (.isRef (.static "java/lang/Throwable" "SUPPRESSED_SENTINEL" _)) (by decide +kernel) | exact hg (.isRef (.static "java/lang/Throwable" "SUPPRESSED_SENTINEL" _)) (by decide +kernel)
  · exact fun a h => Nat.not_le.mpr h
