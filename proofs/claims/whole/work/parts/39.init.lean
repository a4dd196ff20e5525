/-! constructors -/
theorem ap_lt {h : tv_H} {x : tv_E} {b : Nat} (hb : b < h.length) : (h ++ [x])[b]? = h[b]? := List.getElem?_append_left hb
theorem ap_eq {h : tv_H} {x : tv_E} {n : Nat} (hn : h.length = n) : (h ++ [x])[n]? = some x := by
  subst hn
  rw [List.getElem?_append_right (Nat.le_refl _), Nat.sub_self]
  rfl
theorem ap_len {h : tv_H} {x : tv_E} {n : Nat} (hn : h.length = n) : (h ++ [x]).length = n + 1 := by rw [List.length_append, hn]; rfl
/-- from a on the heap has grown to n objects -/
def gr (a n : Nat) (h h' : tv_H) : Prop := h'.length = n ∧ ∀ b, b < a → h'[b]? = h[b]?
theorem gr.tr {a n a' n' : Nat} {h h1 h2 : tv_H} (g : gr a n h h1) (g2 : gr a' n' h1 h2) (ha : a ≤ a') : gr a n' h h2 := ⟨g2.1, fun b hb => (g2.2 b (by omega)).trans (g.2 b hb)⟩
theorem gr.set {a n i : Nat} {h h1 : tv_H} {e : tv_E} (g : gr a n h h1) (hi : a ≤ i) : gr a n h (h1.set i e) := ⟨by rw [List.length_set]; exact g.1, fun b hb => by rw [List.getElem?_set_ne (by omega)]; exact g.2 b hb⟩
theorem gr.add {a n : Nat} {h h1 : tv_H} {e : tv_E} (g : gr a n h h1) (ha : a ≤ n) : gr a (n + 1) h (h1 ++ [e]) := ⟨ap_len g.1, fun b hb => by rw [ap_lt (by rw [g.1]; omega)]; exact g.2 b hb⟩
theorem pa.gr {h h' : tv_H} {a n b : Nat} {p : List Nat} (hp : pa h b p) (g : gr a n h h') (hb : b + 1 < a) : pa h' b p := hp.kept (g.2 _ (by omega)) (g.2 _ (by omega))
theorem en.gr {h h' : tv_H} {a n e : Nat} {p : List Nat} {kd : Int32} {cs : List Nat} (he : en h e p kd cs) (g : gr a n h h') (hb : e + 3 < a) : en h' e p kd cs := by
  obtain ⟨h1, h2, bs, h3, h4⟩ := he
  exact ⟨(g.2 _ (by omega)).trans h1, h2.gr g (by omega), bs, (g.2 _ (by omega)).trans h3, h4⟩
theorem tr.gr {h h' : tv_H} {a n t : Nat} {es : List tE} (ht : tr h t es) (g : gr a n h h') (hb : t + 161 < a) : tr h' t es := by
  obtain ⟨L, ⟨h1, h2, h3, h4, h5, h6⟩, hp⟩ := ht
  refine ⟨L, ⟨(g.2 _ (by omega)).trans h1, (g.2 _ (by omega)).trans h2, h3, h4, h5, fun x hx => ?_⟩, hp⟩
  obtain ⟨⟨j, hj, ej⟩, e2⟩ := h6 x hx
  exact ⟨⟨j, hj, ej⟩, e2.gr g (by omega)⟩
theorem la.gr {h h' : tv_H} {a n b : Nat} {bs : List Nat} {m : Nat} (hp : la h b bs m) (g : gr a n h h') (hb : b + 1 < a) : la h' b bs m := by
  obtain ⟨as, h1, h2, h3⟩ := hp
  exact ⟨as, (g.2 _ (by omega)).trans h1, (g.2 _ (by omega)).trans h2, h3⟩
theorem rep_int (n : Nat) : List.replicate n (Value.int 0) = (List.replicate n (0 : Int32)).map Value.int := by rw [List.map_replicate]
theorem rep_fit {n : Nat} : ∀ b ∈ List.replicate n (0 : Int32), fits .byte (.int b) = true := fun b hb => by
  rw [(List.mem_replicate.mp hb).2]
  decide
section
variable {G : tv_G} {h h' : tv_H} {a : Nat} {c z : Nat}
theorem c_Pa_init (ha : h[a]? = some (2, [.null, .int 0])) (hl : h.length = a + 1) : tv_Ct G mm_Pa_init [.ref a] h 1 19 (rn (fun h' => pa h' a [] ∧ gr a (a + 2) h h')) := by
  have g0 : gr a (a + 1) h h := ⟨hl, fun _ _ => rfl⟩
  refine tv_ct rfl (by decide +kernel) (by simp [Value.category]) (Nat.le_of_ble_eq_true rfl) ?_
  refine e_Pa_init_0 rfl ?_
  refine e_Pa_init_1 (by decide) ?_
  refine e_Pa_init_4 rfl ?_
  refine e_Pa_init_5  ?_
  refine e_Pa_init_7 (c := 0) (z := 0) 19 rfl (by decide) ?_
  have j1 : (h ++ [(100, List.replicate 19 (Value.int 0))])[a]? = some (2, [.null, .int 0]) := (ap_lt (by omega)).trans ha
  rw [hl]
  refine e_Pa_init_9 j1 (Nat.le_of_ble_eq_true rfl) ?_
  exact e_Pa_init_12 ⟨rfl, ⟨List.replicate 19 0, gs_eq j1, gs_ne (by rw [ap_eq hl, rep_int]) (by omega), by simp, List.nil_prefix, rep_fit, fun _ h => by cases h⟩, (g0.add (by omega)).set (by omega)⟩
theorem c_En_init (ha : h[a]? = some (0, [.null, .int 0, .null, .int 0])) (hl : h.length = a + 1) : tv_Ct G mm_En_init [.ref a] h 3 37 (rn (fun h' => en h' a [] 0 [] ∧ gr a (a + 4) h h')) := by
  have g0 : gr a (a + 1) h h := ⟨hl, fun _ _ => rfl⟩
  refine tv_ct rfl (by decide +kernel) (by simp [Value.category]) (Nat.le_of_ble_eq_true rfl) ?_
  refine e_En_init_0 rfl ?_
  refine e_En_init_1 (by decide) ?_
  refine e_En_init_4 rfl ?_
  refine e_En_init_5 (c := 2) (z := 35) ?_
  rw [hl]
  refine e_En_init_8 rfl ?_
  refine e_En_init_9 (mc' := 1) (ms' := 19) (c := 1) (z := 16) (Nat.le_of_ble_eq_true rfl) (c_Pa_init (ap_eq hl) (ap_len hl)) nx (kn ?_)
  rintro h1 ⟨p1, g1⟩
  have j1 : h1[a]? = some (0, [.null, .int 0, .null, .int 0]) := (g1.2 a (by omega)).trans ((ap_lt (by omega)).trans ha)
  have j2 := gs_eq (e := (0, [.ref (a + 1), .int 0, .null, .int 0])) j1
  refine e_En_init_12 j1 (Nat.le_of_ble_eq_true rfl) ?_
  refine e_En_init_15 rfl ?_
  refine e_En_init_16  ?_
  refine e_En_init_18 (c := 0) (z := 0) 16 rfl (by decide) ?_
  have hl1 : (h1.set a (0, [.ref (a + 1), .int 0, .null, .int 0])).length = a + 3 := by rw [List.length_set]; exact g1.1
  rw [show (List.set h1 a (0, [Value.null, .int 0, .null, .int 0].set 0 (.ref (a + 1)))).length = a + 3 from hl1]
  have j3 := (ap_lt (x := (100, List.replicate 16 (Value.int 0))) (show a < (h1.set a (0, [.ref (a + 1), .int 0, .null, .int 0])).length by omega)).trans j2
  refine e_En_init_20 j3 (Nat.le_of_ble_eq_true rfl) ?_
  have gg := ((((g0.add (by omega)).tr g1 (by omega)).set (i := a) (e := (0, [.ref (a + 1), .int 0, .null, .int 0])) (by omega)).add (e := (100, List.replicate 16 (Value.int 0))) (by omega)).set (i := a) (e := (0, [.ref (a + 1), .int 0, .ref (a + 3), .int 0])) (by omega)
  refine e_En_init_23 ⟨rfl, ⟨gs_eq j3, p1.kept ?_ ?_, List.replicate 16 0, gs_ne (by rw [← rep_int]; exact ap_eq hl1) (by omega), by simp, List.nil_prefix, rep_fit, fun _ h => by cases h⟩, gg⟩
  · exact gs_ne ((ap_lt (by rw [List.length_set, g1.1]; omega)).trans (gs_ne rfl (by omega))) (by omega)
  · exact gs_ne ((ap_lt (by rw [List.length_set, g1.1]; omega)).trans (gs_ne rfl (by omega))) (by omega)
theorem l_Tr_init : ∀ j i, j + i = 40 → ∀ hc, hc[a]? = some (3, [.ref (a + 1), .int 0]) → hc[a + 1]? = some (103, (List.range i).map (fun k => Value.ref (a + 2 + 4 * k)) ++ List.replicate j .null) → (∀ k, k < i → en hc (a + 2 + 4 * k) [] 0 []) → gr a (a + 2 + 4 * i) h hc → tv_Ev G mm_Tr_init 15 [some (.ref a), some (.int (nI i))] [] hc (4 * j) (41 * j) (rn (fun h' => tr h' a [] ∧ gr a (a + 162) h h')) := by
  intro j
  induction j with
  | zero =>
    intro i hi hc h1 h2 h3 hg
    have hi : i = 40 := by omega
    subst hi
    refine e_Tr_init_15 rfl ?_
    refine e_Tr_init_16  ?_
    refine e_Tr_init_18 (fun _ => ?_) (fun c1 => absurd (by decide) c1)
    refine e_Tr_init_40 ⟨rfl, ⟨(List.range 40).map (fun k => (a + 2 + 4 * k, ([], 0, []))), ⟨h1, ?_, by simp, by decide, ?_, ?_⟩, List.nil_prefix⟩, hg⟩
    · rw [h2, List.map_map, List.replicate_zero, List.append_nil]
      rfl
    · rw [List.map_map]
      refine List.Pairwise.map _ (R := fun x y => x ≠ y) ?_ List.nodup_range
      intro x y hxy q
      have q : a + 2 + 4 * x = a + 2 + 4 * y := q
      omega
    · intro x hx
      obtain ⟨k, hk, rfl⟩ := List.mem_map.mp hx
      have hk := List.mem_range.mp hk
      exact ⟨⟨k, hk, rfl⟩, h3 k hk⟩
  | succ j ih =>
    intro i hi hc h1 h2 h3 hg
    refine e_Tr_init_15 rfl ?_
    refine e_Tr_init_16  ?_
    refine e_Tr_init_18 (fun c1 => absurd c1 (nI_ge (b := 40) (by omega) (by decide))) (fun _ => ?_)
    refine e_Tr_init_21 rfl ?_
    refine e_Tr_init_22 h1 rfl ?_
    refine e_Tr_init_25 rfl ?_
    rw [show 4 * (j + 1) = 4 * j + 3 + 1 by omega, show 41 * (j + 1) = 41 * j + 37 + 4 by omega]
    refine e_Tr_init_26 ?_
    rw [hg.1]
    refine e_Tr_init_29 rfl ?_
    refine e_Tr_init_30 (mc' := 3) (ms' := 37) (Nat.le_of_ble_eq_true rfl) (c_En_init (ap_eq hg.1) (ap_len hg.1)) nx (kn ?_)
    rintro hd ⟨ed, gd⟩
    have k2 := (gd.2 (a + 1) (by omega)).trans ((ap_lt (by rw [hg.1]; omega)).trans h2)
    have hlen : ((List.range i).map (fun k => Value.ref (a + 2 + 4 * k))).length = i := by simp
    refine e_Tr_init_33 i k2 ed.1 rfl (by simp) (by simp; omega) ?_
    rw [List.replicate_succ, set_mid hlen]
    refine e_Tr_init_34 rfl ?_
    refine e_Tr_init_37  ?_
    have gg : gr a (a + 2 + 4 * (i + 1)) h (hd.set (a + 1) (103, (List.range i).map (fun k => Value.ref (a + 2 + 4 * k)) ++ Value.ref (a + 2 + 4 * i) :: List.replicate j .null)) := by
      refine gr.set ?_ (by omega)
      rw [show a + 2 + 4 * (i + 1) = a + 2 + 4 * i + 4 by omega]
      exact (hg.add (by omega)).tr gd (by omega)
    have := ih (i + 1) (by omega) _ (gs_ne ((gd.2 a (by omega)).trans ((ap_lt (by rw [hg.1]; omega)).trans h1)) (by omega)) (by
      rw [gs_eq k2, List.range_succ, List.map_append, List.append_assoc]; rfl) (by
      intro k hk
      rcases Nat.lt_or_ge k i with w | w
      · refine en.kept (S := fun b => b = a + 1) (((h3 k w).gr ⟨ap_len hg.1, fun b hb => ap_lt (by rw [hg.1]; exact hb)⟩ (by omega)).gr gd (by omega)) (fr.set rfl) (fun b hb => by have := hb.1; omega)
      · have : k = i := by omega
        subst this
        exact en.kept (S := fun b => b = a + 1) ed (fr.set rfl) (fun b hb => by have := hb.1; omega)) gg
    rw [nI_succ] at this
    exact this
theorem c_Tr_init (ha : h[a]? = some (3, [.null, .int 0])) (hl : h.length = a + 1) : tv_Ct G mm_Tr_init [.ref a] h 161 1680 (rn (fun h' => tr h' a [] ∧ gr a (a + 162) h h')) := by
  have g0 : gr a (a + 1) h h := ⟨hl, fun _ _ => rfl⟩
  refine tv_ct rfl (by decide +kernel) (by simp [Value.category]) (Nat.le_of_ble_eq_true rfl) ?_
  refine e_Tr_init_0 rfl ?_
  refine e_Tr_init_1 (by decide) ?_
  refine e_Tr_init_4 rfl ?_
  refine e_Tr_init_5  ?_
  refine e_Tr_init_7 (c := 160) (z := 1640) 40 rfl (by decide) ?_
  have j1 : (h ++ [(103, List.replicate 40 Value.null)])[a]? = some (3, [.null, .int 0]) := (ap_lt (by omega)).trans ha
  rw [hl]
  refine e_Tr_init_10 j1 (Nat.le_of_ble_eq_true rfl) ?_
  refine e_Tr_init_13  ?_
  refine e_Tr_init_14 (Nat.le_of_ble_eq_true rfl) ?_
  exact l_Tr_init 40 0 rfl _ (gs_eq j1) (gs_ne (ap_eq hl) (by omega)) (fun k hk => by omega) ((g0.add (by omega)).set (by omega))
theorem c_La_init (ha : h[a]? = some (1, [.null, .int 0, .int 0])) (hl : h.length = a + 1) : tv_Ct G mm_La_init [.ref a] h 1 2480 (rn (fun h' => la h' a [] 0 ∧ gr a (a + 2) h h')) := by
  have g0 : gr a (a + 1) h h := ⟨hl, fun _ _ => rfl⟩
  refine tv_ct rfl (by decide +kernel) (by simp [Value.category]) (Nat.le_of_ble_eq_true rfl) ?_
  refine e_La_init_0 rfl ?_
  refine e_La_init_1 (by decide) ?_
  refine e_La_init_4 rfl ?_
  refine e_La_init_5  ?_
  refine e_La_init_8 (c := 0) (z := 0) 2480 rfl (by decide) ?_
  have j1 : (h ++ [(100, List.replicate 2480 (Value.int 0))])[a]? = some (1, [.null, .int 0, .int 0]) := (ap_lt (by omega)).trans ha
  rw [hl]
  refine e_La_init_10 j1 (Nat.le_of_ble_eq_true rfl) ?_
  exact e_La_init_13 ⟨rfl, ⟨List.replicate 2480 0, gs_eq j1, gs_ne (by rw [ap_eq hl, rep_int]) (by omega), by rw [List.length_replicate], List.nil_prefix, rep_fit, fun _ h => by cases h⟩, (g0.add (by omega)).set (by omega)⟩
end
