/-! Path: replaceStart; Entry -/
theorem vi_map {bs : List Int32} {g : Nat} : (bs.map Value.int).drop g = (bs.drop g).map Value.int := by rw [List.map_drop]
theorem cpy_map (fs gs : List Int32) (sp dp n : Nat) : tv_cpy (fs.map Value.int) (gs.map Value.int) sp dp n = (gs.take dp ++ (fs.drop sp).take n ++ gs.drop (dp + n)).map Value.int := by
  unfold tv_cpy
  simp [List.map_append, List.map_take, List.map_drop]
section
variable {G : tv_G} {h : tv_H} {a b : Nat} {p q : List Nat} {c z : Nat} {Q : tv_R → tv_H → Prop}
theorem c_Pa_replaceStart (hp : pa h a p) (hq : pa h b q) (n1 : a ≠ b) (n2 : a + 1 ≠ b) (n3 : b + 1 ≠ a) {s : Nat} (hs : s ≤ p.length) (hn : p.length - s + q.length ≤ 19) : tv_Ct G mm_Pa_replaceStart [.ref a, .int (nI s), .ref b] h 0 0 (rn (fun h' => pa h' a (q ++ p.drop s) ∧ fr (pS a) h h')) := by
  have hl := hp.len
  have hlq := hq.len
  obtain ⟨bs, h1, h2, h3, h4, h5, h6⟩ := id hp
  obtain ⟨cs, g1, g2, g3, g4, g5, g6⟩ := id hq
  have e1 : nI p.length - nI s = nI (p.length - s) := pk_sub hs
  have e2 : nI p.length - nI s + nI q.length = nI (p.length - s + q.length) := by rw [e1, nI_add]
  refine tv_ct rfl (by decide +kernel) (by simp [Value.category]) (Nat.le_of_ble_eq_true rfl) ?_
  refine e_Pa_replaceStart_0 rfl ?_
  refine e_Pa_replaceStart_1 h1 rfl ?_
  refine e_Pa_replaceStart_4 rfl ?_
  refine e_Pa_replaceStart_5  ?_
  refine e_Pa_replaceStart_6 rfl ?_
  refine e_Pa_replaceStart_7 g1 rfl ?_
  refine e_Pa_replaceStart_10  ?_
  refine e_Pa_replaceStart_11 (Nat.le_of_ble_eq_true rfl) ?_
  refine e_Pa_replaceStart_12 rfl ?_
  refine e_Pa_replaceStart_13 rfl ?_
  refine e_Pa_replaceStart_14 h1 rfl ?_
  refine e_Pa_replaceStart_17 (fun c1 => absurd c1 (nI_nlt hs (by omega))) (fun _ => ?_)
  refine e_Pa_replaceStart_20 rfl ?_
  refine e_Pa_replaceStart_21  ?_
  refine e_Pa_replaceStart_23 (fun _ => ?_) (fun c1 => absurd (by rw [e2]; exact nI_le (b := 19) hn (by decide)) c1)
  refine e_Pa_replaceStart_27 rfl ?_
  refine e_Pa_replaceStart_28 h1 rfl ?_
  refine e_Pa_replaceStart_31 rfl ?_
  refine e_Pa_replaceStart_32 rfl ?_
  refine e_Pa_replaceStart_33 h1 rfl ?_
  refine e_Pa_replaceStart_36 rfl ?_
  refine e_Pa_replaceStart_37 g1 rfl ?_
  refine e_Pa_replaceStart_40 rfl ?_
  refine e_Pa_replaceStart_41 h1 rfl ?_
  refine e_Pa_replaceStart_44 rfl ?_
  refine e_Pa_replaceStart_45  ?_
  refine e_Pa_replaceStart_46 s q.length (p.length - s) h2 h2 rfl rfl e1 (by simp; omega) (by simp; omega) (by simp; omega) (by simp; omega) (by intro v hv; obtain ⟨d, hd, rfl⟩ := List.mem_map.mp hv; exact h5 d hd) (by decide) ?_
  rw [cpy_map]
  obtain ⟨ds, hds⟩ : ∃ ds, ds = bs.take q.length ++ (bs.drop s).take (p.length - s) ++ bs.drop (q.length + (p.length - s)) := ⟨_, rfl⟩
  rw [← hds]
  have dl : ds.length = 19 := by rw [hds]; simp; omega
  have d5 : ∀ d ∈ ds, fits .byte (.int d) = true := by
    intro d hd
    rw [hds] at hd
    refine h5 d ?_
    rcases List.mem_append.mp hd with hd | hd
    · rcases List.mem_append.mp hd with hd | hd
      · exact List.mem_of_mem_take hd
      · exact List.mem_of_mem_drop (List.mem_of_mem_take hd)
    · exact List.mem_of_mem_drop hd
  have k1 : (h.set (a + 1) (100, ds.map Value.int))[a]? = some (2, [.ref (a + 1), .int (nI p.length)]) := gs_ne h1 (by omega)
  have k2 : (h.set (a + 1) (100, ds.map Value.int))[a + 1]? = some (100, ds.map Value.int) := gs_eq h2
  have k3 : (h.set (a + 1) (100, ds.map Value.int))[b]? = some (2, [.ref (b + 1), .int (nI q.length)]) := gs_ne g1 n2
  have k4 : (h.set (a + 1) (100, ds.map Value.int))[b + 1]? = some (100, cs.map Value.int) := gs_ne g2 (by omega)
  refine e_Pa_replaceStart_49 rfl ?_
  refine e_Pa_replaceStart_50 k3 rfl ?_
  refine e_Pa_replaceStart_53  ?_
  refine e_Pa_replaceStart_54 rfl ?_
  refine e_Pa_replaceStart_55 k1 rfl ?_
  refine e_Pa_replaceStart_58  ?_
  refine e_Pa_replaceStart_59 rfl ?_
  refine e_Pa_replaceStart_60 k3 rfl ?_
  refine e_Pa_replaceStart_63 0 0 q.length k4 k2 rfl rfl rfl (by simp; omega) (by simp; omega) (by simp; omega) (by simp; omega) (by intro v hv; obtain ⟨d, hd, rfl⟩ := List.mem_map.mp hv; exact g5 d hd) (by decide) ?_
  rw [cpy_map]
  obtain ⟨es, hes⟩ : ∃ es, es = ds.take 0 ++ (cs.drop 0).take q.length ++ ds.drop (0 + q.length) := ⟨_, rfl⟩
  rw [← hes]
  have k5 : ((h.set (a + 1) (100, ds.map Value.int)).set (a + 1) (100, es.map Value.int))[a]? = some (2, [.ref (a + 1), .int (nI p.length)]) := gs_ne k1 (by omega)
  refine e_Pa_replaceStart_66 rfl ?_
  refine e_Pa_replaceStart_67 rfl ?_
  refine e_Pa_replaceStart_68 k5 (Nat.le_of_ble_eq_true rfl) ?_
  have hes2 : es = q.map sb_b ++ ds.drop q.length := by
    rw [hes, Nat.zero_add]
    obtain ⟨t, ht⟩ := g4
    rw [← ht]
    simp
  have hdd : (p.drop s).map sb_b <+: ds.drop q.length := by
    obtain ⟨t, ht⟩ := h4
    have e3 : (bs.drop s).take (p.length - s) = (p.drop s).map sb_b := by
      rw [← ht, List.drop_append_of_le_length (by simp; omega), List.take_append_of_le_length (by simp), ← List.map_drop, List.take_of_length_le (by simp)]
    have e4 : (bs.take q.length).drop q.length = [] := List.drop_eq_nil_of_le (by rw [List.length_take]; omega)
    rw [hds, e3, List.append_assoc, List.drop_append_of_le_length (by simp; omega), e4, List.nil_append]
    exact List.prefix_append _ _
  refine e_Pa_replaceStart_71 ⟨rfl, ⟨es, ?_, ?_, ?_, ?_, ?_, ?_⟩, ((fr.set (Or.inr rfl)).tr (fr.set (Or.inr rfl))).tr (fr.set (Or.inl rfl))⟩
  · rw [gs_eq k5, e2, List.length_append, List.length_drop]
    rw [show p.length - s + q.length = q.length + (p.length - s) by omega]
    rfl
  · exact gs_ne (gs_eq k2) (by omega)
  · rw [hes2]; simp; omega
  · rw [hes2, List.map_append]
    obtain ⟨t, ht⟩ := hdd
    exact ⟨t, by rw [List.append_assoc, ht]⟩
  · intro d hd
    rw [hes2] at hd
    rcases List.mem_append.mp hd with hd | hd
    · obtain ⟨u, -, rfl⟩ := List.mem_map.mp hd
      exact sb_fitB u
    · exact d5 d (List.mem_of_mem_drop hd)
  · intro d hd
    rcases List.mem_append.mp hd with hd | hd
    · exact g6 d hd
    · exact h6 d (List.mem_of_mem_drop hd)
/-- an Entry at e: its path, kind, bytes -/
def en (h : tv_H) (e : Nat) (p : List Nat) (kd : Int32) (cs : List Nat) : Prop := h[e]? = some (0, [.ref (e + 1), .int kd, .ref (e + 3), .int (nI cs.length)]) ∧ pa h (e + 1) p ∧ ∃ bs : List Int32, h[e + 3]? = some (100, bs.map Value.int) ∧ bs.length = 16 ∧ cs.map sb_b <+: bs ∧ (∀ b ∈ bs, fits .byte (.int b) = true) ∧ ∀ c ∈ cs, c < 256
theorem en.len {e : Nat} {kd : Int32} {cs : List Nat} (he : en h e p kd cs) : cs.length ≤ 16 := by
  obtain ⟨-, -, bs, -, h3, h4, -⟩ := he
  have h5 := h4.length_le
  rw [List.length_map] at h5
  omega
abbrev eS (e : Nat) : Nat → Prop := fun b => e ≤ b ∧ b ≤ e + 3
theorem en.kept {h' : tv_H} {e : Nat} {kd : Int32} {cs : List Nat} {S : Nat → Prop} (he : en h e p kd cs) (hf : fr S h h') (hs : ∀ b, eS e b → ¬ S b) : en h' e p kd cs := by
  obtain ⟨h1, h2, bs, h3, h4⟩ := he
  exact ⟨(hf.2 _ (hs _ ⟨by omega, by omega⟩)).trans h1, h2.kept (hf.2 _ (hs _ ⟨by omega, by omega⟩)) (hf.2 _ (hs _ ⟨by omega, by omega⟩)), bs, (hf.2 _ (hs _ ⟨by omega, by omega⟩)).trans h3, h4⟩
variable {e : Nat} {kd kd2 : Int32} {cs ds : List Nat}
theorem c_En_begin (he : en h e p kd cs) (hq : pa h b q) (nb : ¬ (e ≤ b ∧ b ≤ e + 2)) {x : Int32} : tv_Ct G mm_En_begin [.ref e, .ref b, .int x] h 0 0 (rn (fun h' => en h' e q x [] ∧ fr (eS e) h h')) := by
  obtain ⟨h1, h2, bs, h3, h4, h5, h6, h7⟩ := id he
  obtain ⟨_, i1, -⟩ := id h2
  refine tv_ct rfl (by decide +kernel) (by simp [Value.category]) (Nat.le_of_ble_eq_true rfl) ?_
  refine e_En_begin_0 rfl ?_
  refine e_En_begin_1 h1 rfl ?_
  refine e_En_begin_4 rfl ?_
  refine e_En_begin_5 i1 (by decide) (c_Pa_become h2 hq (by omega) (by omega)) (kn ?_) xn
  rintro h' ⟨p', f'⟩
  have j1 : h'[e]? = some (0, [.ref (e + 1), .int kd, .ref (e + 3), .int (nI cs.length)]) := (f'.2 _ (by rintro (q | q) <;> omega)).trans h1
  have j3 : h'[e + 3]? = some (100, bs.map Value.int) := (f'.2 _ (by rintro (q | q) <;> omega)).trans h3
  have j2 := gs_eq (e := (0, [.ref (e + 1), .int x, .ref (e + 3), .int (nI cs.length)])) j1
  refine e_En_begin_8 rfl ?_
  refine e_En_begin_9 rfl ?_
  refine e_En_begin_10 j1 (Nat.le_of_ble_eq_true rfl) ?_
  refine e_En_begin_13 rfl ?_
  refine e_En_begin_14  ?_
  refine e_En_begin_15 j2 (Nat.le_of_ble_eq_true rfl) ?_
  have n1 : ∀ d : Nat, d ≠ e → ∀ (u v : tv_E), ((h'.set e u).set e v)[d]? = h'[d]? := fun d hd u v => gs_ne (gs_ne rfl (Ne.symm hd)) (Ne.symm hd)
  refine e_En_begin_18 ⟨rfl, ⟨gs_eq j2, p'.kept (n1 _ (by omega) _ _) (n1 _ (by omega) _ _), bs, (n1 _ (by omega) _ _).trans j3, h4, List.nil_prefix, h6, fun c hc => by cases hc⟩, ?_⟩
  exact ((f'.mono (S' := eS e) (by rintro d (q | q) <;> exact ⟨by omega, by omega⟩)).tr (fr.set ⟨by omega, by omega⟩)).tr (fr.set ⟨by omega, by omega⟩)
end
