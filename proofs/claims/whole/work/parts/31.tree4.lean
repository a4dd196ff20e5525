/-! Tree: drop, become, isLike -/
theorem swap_perm {α : Type} {l : List α} {i j : Nat} {x y : α} (hi : l[i]? = some x) (hj : l[j]? = some y) : ((l.set i y).set j x).Perm l := by
  have a := List.getElem?_eq_some_iff.mp hi
  have b := List.getElem?_eq_some_iff.mp hj
  have h := List.set_set_perm (as := l) a.1 b.1
  rw [a.2, b.2] at h
  exact h
/-- what a drop takes away -/
abbrev gn (q : List Nat) (al : Bool) (f : tE) : Prop := bw f.1 q ∨ (al = true ∧ f.1 = q)
def dr (q : List Nat) (al : Bool) (es : List tE) : List tE := es.filter (fun f => decide (¬ gn q al f))
theorem dr_s (q : List Nat) (al : Bool) (l : List tE) (f : tE) : dr q al (l ++ [f]) = dr q al l ++ (if gn q al f then [] else [f]) := by
  unfold dr
  rw [List.filter_append]
  congr 1
  by_cases hg : gn q al f
  · rw [if_pos hg, List.filter_cons_of_neg (by rw [decide_eq_true_eq]; exact fun g => g hg), List.filter_nil]
  · rw [if_neg hg, List.filter_cons_of_pos (by rw [decide_eq_true_eq]; exact hg), List.filter_nil]
theorem tr.kept {h h' : tv_H} {t : Nat} {es : List tE} {S : Nat → Prop} (ht : tr h t es) (hf : fr S h h') (hs : ∀ b, tS t b → ¬ S b) : tr h' t es := by
  obtain ⟨L, ⟨h1, h2, h3, h4, h5, h6⟩, hp⟩ := ht
  refine ⟨L, ⟨(hf.2 _ (hs _ ⟨by omega, by omega⟩)).trans h1, (hf.2 _ (hs _ ⟨by omega, by omega⟩)).trans h2, h3, h4, h5, fun x hx => ?_⟩, hp⟩
  obtain ⟨⟨j, hj, e1⟩, e2⟩ := h6 x hx
  exact ⟨⟨j, hj, e1⟩, e2.kept hf (fun b hb => hs b ⟨by have := hb.1; omega, by have := hb.2; omega⟩)⟩
section
variable {G : tv_G} {h h' : tv_H} {a b t u n e : Nat} {p q : List Nat} {c z : Nat} {es es2 : List tE} {L L' : List (Nat × tE)} {kd : Int32} {cs : List Nat}
theorem l_Tr_drop (al : Bool) (hq : pa h b q) (sq : sm q) (nb : b ≠ t + 1) (nb1 : b ≠ t) (hs : sme es) : ∀ j i, j + i = es.length → ∀ hc Lc κ g1 g2, tq hc t es.length Lc → fr (fun b => b = t + 1) h hc → κ ≤ i → (∀ k, i ≤ k → k < es.length → (Lc[k]?).map Prod.snd = es[k]?) → (Lc.map Prod.snd).take κ = dr q al (es.take i) → tv_Ev G mm_Tr_drop 5 [some (.ref t), some (.ref b), some (.int (if al = true then 1 else 0)), some (.int (nI κ)), some (.int (nI i)), g1, g2] [] hc c z (rn (fun h' => tr h' t (dr q al es) ∧ fr (fun b => b = t ∨ b = t + 1) h h')) := by
  intro j
  induction j with
  | zero =>
    intro i hi hc Lc κ g1 g2 hL hf hκ hdr htk
    have hi : i = es.length := by omega
    subst hi
    have h1 := hL.1
    have hle := hL.2.2.2.1
    have hlen := hL.2.2.1
    refine e_Tr_drop_5 rfl ?_
    refine e_Tr_drop_7 rfl ?_
    refine e_Tr_drop_8 h1 rfl ?_
    refine e_Tr_drop_11 (fun _ => ?_) (fun c1 => absurd (nI_le (Nat.le_refl _) (by omega)) c1)
    refine e_Tr_drop_93 rfl ?_
    refine e_Tr_drop_94 rfl ?_
    refine e_Tr_drop_95 h1 (Nat.le_of_ble_eq_true rfl) ?_
    rw [List.take_length] at htk
    have hκ2 : κ = (dr q al es).length := by
      rw [← htk, List.length_take, List.length_map]
      omega
    have hL2 := hL.cnt (m := κ) (by omega)
    rw [hκ2] at hL2
    refine e_Tr_drop_98 ⟨rfl, ⟨Lc, by rw [hκ2]; exact hL2, ?_⟩, (hf.mono (fun b hb => Or.inr hb)).tr (fr.set (Or.inl rfl))⟩
    rw [← htk]
    exact List.take_prefix _ _
  | succ j ih =>
    intro i hi hc Lc κ g1 g2 hL hf hκ hdr htk
    obtain ⟨h1, h2, h3, h4, h5, h6⟩ := id hL
    have hx : Lc[i]? = some Lc[i] := List.getElem?_eq_getElem (by omega)
    have hy : Lc[κ]? = some Lc[κ] := List.getElem?_eq_getElem (by omega)
    obtain ⟨e1, j1, hj1, ej1⟩ := en_m hL hx
    obtain ⟨e2, -⟩ := en_m hL hy
    obtain ⟨_, i1, -⟩ := id e1.2.1
    have hei : es[i]? = some Lc[i].2 := by
      rw [← hdr i (Nat.le_refl i) (by omega), hx]; rfl
    have sx : sm Lc[i].2.1 := hs _ (List.mem_of_getElem? hei)
    have hqc : pa hc b q := hq.kept (hf.2 b nb) (hf.2 (b + 1) (by omega))
    have htake : es.take (i + 1) = es.take i ++ [Lc[i].2] := take_g hei
    refine e_Tr_drop_5 rfl ?_
    refine e_Tr_drop_7 rfl ?_
    refine e_Tr_drop_8 h1 rfl ?_
    refine e_Tr_drop_11 (fun c1 => absurd c1 (nI_ge (by omega) (by omega))) (fun _ => ?_)
    refine e_Tr_drop_14 rfl ?_
    refine e_Tr_drop_15 h1 rfl ?_
    refine e_Tr_drop_18 rfl ?_
    refine e_Tr_drop_20 i h2 rfl (by rw [List.getElem?_map, hx]; rfl) (by rw [List.length_map]; omega) ?_
    refine e_Tr_drop_21 (Nat.le_of_ble_eq_true rfl) ?_
    refine e_Tr_drop_23 rfl ?_
    refine e_Tr_drop_25 e1.1 rfl ?_
    refine e_Tr_drop_28 rfl ?_
    -- behind the question
    have key : ∀ g2, tv_Ev G mm_Tr_drop 56 [some (.ref t), some (.ref b), some (.int (if al = true then 1 else 0)), some (.int (nI κ)), some (.int (nI i)), some (.ref Lc[i].1), g2] [.int (if gn q al Lc[i].2 then 1 else 0)] hc c z (rn (fun h' => tr h' t (dr q al es) ∧ fr (fun b => b = t ∨ b = t + 1) h h')) := by
      intro g2
      refine e_Tr_drop_56 (Nat.le_of_ble_eq_true rfl) ?_
      refine e_Tr_drop_58 rfl ?_
      by_cases hg : gn q al Lc[i].2
      · rw [if_pos hg]
        refine e_Tr_drop_60 (fun _ => ?_) (fun c1 => absurd c1 (by decide))
        refine e_Tr_drop_87 rfl ?_
        refine e_Tr_drop_90  ?_
        have := ih (i + 1) (by omega) hc Lc κ (some (.ref Lc[i].1)) (some (.int 1)) hL hf (by omega) (fun k hk1 hk2 => hdr k (by omega) hk2) (by
          rw [htk, htake, dr_s, if_pos hg, List.append_nil])
        rw [nI_succ] at this
        exact this
      · rw [if_neg hg]
        refine e_Tr_drop_60 (fun c1 => absurd rfl c1) (fun _ => ?_)
        refine e_Tr_drop_63 rfl ?_
        refine e_Tr_drop_64 h1 rfl ?_
        refine e_Tr_drop_67 rfl ?_
        refine e_Tr_drop_69 rfl ?_
        refine e_Tr_drop_70 h1 rfl ?_
        refine e_Tr_drop_73 rfl ?_
        refine e_Tr_drop_74 κ h2 rfl (by rw [List.getElem?_map, hy]; rfl) (by rw [List.length_map]; omega) ?_
        refine e_Tr_drop_75 i h2 e2.1 rfl (by rw [List.length_map]; omega) (by rw [List.length_map]; omega) ?_
        obtain ⟨hd, hhd⟩ : ∃ hd, hd = hc.set (t + 1) (103, (Lc.map (fun x => Value.ref x.1)).set i (.ref Lc[κ].1)) := ⟨_, rfl⟩
        rw [← hhd]
        have fd : fr (fun b => b = t + 1) hc hd := by rw [hhd]; exact fr.set rfl
        have d1 := (fd.2 t (by omega)).trans h1
        have d2 : hd[t + 1]? = some (103, (Lc.map (fun x => Value.ref x.1)).set i (.ref Lc[κ].1)) := by rw [hhd]; exact gs_eq h2
        have d3 := e1.kept fd (fun b hb => by have := hb.1; omega)
        refine e_Tr_drop_76 rfl ?_
        refine e_Tr_drop_77 d1 rfl ?_
        refine e_Tr_drop_80 rfl ?_
        refine e_Tr_drop_81 rfl ?_
        refine e_Tr_drop_83 κ d2 d3.1 rfl (by rw [List.length_set, List.length_map]; omega) (by rw [List.length_set, List.length_map]; omega) ?_
        refine e_Tr_drop_84 rfl ?_
        refine e_Tr_drop_87 rfl ?_
        refine e_Tr_drop_90  ?_
        have hperm := swap_perm hx hy
        have hrow : ((Lc.set i Lc[κ]).set κ Lc[i]).map (fun x => Value.ref x.1) = ((Lc.map (fun x => Value.ref x.1)).set i (.ref Lc[κ].1)).set κ (.ref Lc[i].1) := by rw [List.map_set, List.map_set]
        have f2 : fr (fun b => b = t + 1) hc (hd.set (t + 1) (103, ((Lc.map (fun x => Value.ref x.1)).set i (.ref Lc[κ].1)).set κ (.ref Lc[i].1))) := fd.tr (fr.set rfl)
        have hL2 := hL.rows hperm f2 (by rw [gs_eq d2, hrow])
        have := ih (i + 1) (by omega) _ _ (κ + 1) (some (.ref Lc[i].1)) (some (.int 0)) hL2 (hf.tr f2) (by omega) (fun k hk1 hk2 => by
          rw [List.getElem?_set_ne (by omega), List.getElem?_set_ne (by omega)]
          exact hdr k (by omega) hk2) (by
          rw [htake]
          have e9 : (Lc.map Prod.snd).length = 40 := by rw [List.length_map]; exact h3
          have q1 : (((Lc.set i Lc[κ]).set κ Lc[i]).map Prod.snd)[κ]? = some Lc[i].2 := by
            rw [List.getElem?_map, List.getElem?_set_self (by rw [List.length_set]; omega)]; rfl
          rw [take_g q1]
          have q2 : (((Lc.set i Lc[κ]).set κ Lc[i]).map Prod.snd).take κ = (Lc.map Prod.snd).take κ := by
            rw [List.map_set, List.map_set, List.take_set_of_le (Nat.le_refl κ), List.take_set_of_le hκ]
          rw [q2, htk, dr_s, if_neg hg])
        rw [nI_succ, nI_succ] at this
        exact this
    have no : ¬ gn q al Lc[i].2 → ∀ g2, tv_Ev G mm_Tr_drop 55 [some (.ref t), some (.ref b), some (.int (if al = true then 1 else 0)), some (.int (nI κ)), some (.int (nI i)), some (.ref Lc[i].1), g2] [] hc c z (rn (fun h' => tr h' t (dr q al es) ∧ fr (fun b => b = t ∨ b = t + 1) h h')) := by
      intro hg g2
      have := key g2
      rw [if_neg hg] at this
      refine e_Tr_drop_55  ?_
      exact this
    have yes : gn q al Lc[i].2 → ∀ g2, tv_Ev G mm_Tr_drop 51 [some (.ref t), some (.ref b), some (.int (if al = true then 1 else 0)), some (.int (nI κ)), some (.int (nI i)), some (.ref Lc[i].1), g2] [] hc c z (rn (fun h' => tr h' t (dr q al es) ∧ fr (fun b => b = t ∨ b = t + 1) h h')) := by
      intro hg g2
      have := key g2
      rw [if_pos hg] at this
      refine e_Tr_drop_51  ?_
      refine e_Tr_drop_52  ?_
      exact this
    refine e_Tr_drop_29 i1 (by decide) (c_Pa_isBelow e1.2.1 hqc sx sq) (kp ?_) xn
    by_cases hb : bw Lc[i].2.1 q
    · rw [if_pos hb]
      refine e_Tr_drop_32 (fun _ => ?_) (fun c1 => absurd c1 (by decide))
      exact yes (Or.inl hb) _
    · rw [if_neg hb]
      refine e_Tr_drop_32 (fun c1 => absurd rfl c1) (fun _ => ?_)
      refine e_Tr_drop_35 rfl ?_
      cases al with
      | false =>
        refine e_Tr_drop_36 (fun _ => ?_) (fun c1 => absurd rfl c1)
        exact no (by rintro (g | ⟨g, -⟩); exact hb g; cases g) _
      | true =>
        refine e_Tr_drop_36 (fun c1 => absurd c1 (by decide)) (fun _ => ?_)
        refine e_Tr_drop_39 rfl ?_
        refine e_Tr_drop_41 e1.1 rfl ?_
        refine e_Tr_drop_44 rfl ?_
        refine e_Tr_drop_45 i1 (by decide) (c_Pa_isAt e1.2.1 hqc sx sq) (kp ?_) xn
        by_cases ha : Lc[i].2.1 = q
        · rw [if_pos ha]
          refine e_Tr_drop_48 (fun c1 => absurd c1 (by decide)) (fun _ => ?_)
          exact yes (Or.inr ⟨rfl, ha⟩) _
        · rw [if_neg ha]
          refine e_Tr_drop_48 (fun _ => ?_) (fun c1 => absurd rfl c1)
          exact no (by rintro (g | ⟨-, g⟩); exact hb g; exact ha g) _
theorem c_Tr_drop (al : Bool) (ht : tr h t es) (hs : sme es) (hq : pa h b q) (sq : sm q) (nb : b ≠ t + 1) (nb1 : b ≠ t) : tv_Ct G mm_Tr_drop [.ref t, .ref b, .int (if al = true then 1 else 0)] h 0 0 (rn (fun h' => tr h' t (dr q al es) ∧ fr (fun b => b = t ∨ b = t + 1) h h')) := by
  obtain ⟨L, hL, hpre⟩ := ht
  refine tv_ct rfl (by decide +kernel) (by simp [Value.category]) (Nat.le_of_ble_eq_true rfl) ?_
  refine e_Tr_drop_0  ?_
  refine e_Tr_drop_1 (Nat.le_of_ble_eq_true rfl) ?_
  refine e_Tr_drop_2  ?_
  refine e_Tr_drop_3 (Nat.le_of_ble_eq_true rfl) ?_
  exact l_Tr_drop al hq sq nb nb1 hs es.length 0 rfl h L 0 none none hL fr.rf (Nat.le_refl 0) (fun k _ hk => snd_at hpre hk) rfl
theorem l_Tr_isLike (ht : tr h t es) (hu : tr h u es2) (hs : sme es) (hs2 : sme es2) (hlen : es.length = es2.length) : ∀ j i, j + i = es.length → ∀ g1 g2, es.take i = es2.take i → tv_Ev G mm_Tr_isLike 15 [some (.ref t), some (.ref u), some (.int (nI i)), g1, g2] [] h c z (rv (.int (if es = es2 then 1 else 0)) (fun h' => h' = h)) := by
  have hl := ht.len
  obtain ⟨rs, h1, h2, h3, h4⟩ := ht.row
  obtain ⟨rs', k1, k2, k3, k4⟩ := hu.row
  intro j
  induction j with
  | zero =>
    intro i hi g1 g2 he
    have hi : i = es.length := by omega
    subst hi
    rw [List.take_length, hlen, List.take_length] at he
    refine e_Tr_isLike_15 rfl ?_
    refine e_Tr_isLike_16 rfl ?_
    refine e_Tr_isLike_17 h1 rfl ?_
    refine e_Tr_isLike_20 (fun _ => ?_) (fun c1 => absurd (nI_le (Nat.le_refl _) (by omega)) c1)
    refine e_Tr_isLike_70  ?_
    exact e_Tr_isLike_71 (Or.inr rfl) ⟨by rw [if_pos he], rfl⟩
  | succ j ih =>
    intro i hi g1 g2 he
    have hei : es[i]? = some es[i] := List.getElem?_eq_getElem (by omega)
    have hei2 : es2[i]? = some es2[i] := List.getElem?_eq_getElem (by omega)
    obtain ⟨r, hr, e1⟩ := h4 i _ hei
    obtain ⟨r2, hr2, e2⟩ := k4 i _ hei2
    obtain ⟨_, i1, -⟩ := id e1.2.1
    have s1 : sm es[i].1 := hs _ (List.getElem_mem _)
    have s2 : sm es2[i].1 := hs2 _ (List.getElem_mem _)
    have no : es[i] ≠ es2[i] → ∀ ls, tv_Ev G mm_Tr_isLike 62 ls [] h c z (rv (.int (if es = es2 then 1 else 0)) (fun h' => h' = h)) := by
      intro hne ls
      refine e_Tr_isLike_62  ?_
      refine e_Tr_isLike_63 (Or.inl rfl) ⟨?_, rfl⟩
      rw [if_neg]
      rintro rfl
      exact hne rfl
    refine e_Tr_isLike_15 rfl ?_
    refine e_Tr_isLike_16 rfl ?_
    refine e_Tr_isLike_17 h1 rfl ?_
    refine e_Tr_isLike_20 (fun c1 => absurd c1 (nI_ge (by omega) (by omega))) (fun _ => ?_)
    refine e_Tr_isLike_23 rfl ?_
    refine e_Tr_isLike_24 h1 rfl ?_
    refine e_Tr_isLike_27 rfl ?_
    refine e_Tr_isLike_28 i h2 rfl (map_get hr) (by rw [List.length_map]; omega) ?_
    refine e_Tr_isLike_29 (Nat.le_of_ble_eq_true rfl) ?_
    refine e_Tr_isLike_30 rfl ?_
    refine e_Tr_isLike_31 k1 rfl ?_
    refine e_Tr_isLike_34 rfl ?_
    refine e_Tr_isLike_35 i k2 rfl (map_get hr2) (by rw [List.length_map]; omega) ?_
    refine e_Tr_isLike_36 (Nat.le_of_ble_eq_true rfl) ?_
    refine e_Tr_isLike_38 rfl ?_
    refine e_Tr_isLike_39 e1.1 rfl ?_
    refine e_Tr_isLike_42 rfl ?_
    refine e_Tr_isLike_44 e2.1 rfl ?_
    refine e_Tr_isLike_47 i1 (by decide) (c_Pa_isAt e1.2.1 e2.2.1 s1 s2) (kp ?_) xn
    by_cases hp : es[i].1 = es2[i].1
    · rw [if_pos hp]
      refine e_Tr_isLike_50 (fun c1 => absurd c1 (by decide)) (fun _ => ?_)
      refine e_Tr_isLike_53 rfl ?_
      refine e_Tr_isLike_54 rfl ?_
      refine e_Tr_isLike_56 e1.1 (by decide) (c_En_hasLikeContent e1 e2) (kp ?_) xn
      by_cases hc : es[i].2.1 = es2[i].2.1 ∧ es[i].2.2 = es2[i].2.2
      · rw [if_pos hc]
        refine e_Tr_isLike_59 (fun _ => ?_) (fun c1 => absurd c1 (by decide))
        refine e_Tr_isLike_64 rfl ?_
        refine e_Tr_isLike_67  ?_
        have heq : es[i] = es2[i] := Prod.ext hp (Prod.ext hc.1 hc.2)
        have := ih (i + 1) (by omega) (some (.ref r)) (some (.ref r2)) (by rw [take_g hei, take_g hei2, he, heq])
        rw [nI_succ] at this
        exact this
      · rw [if_neg hc]
        refine e_Tr_isLike_59 (fun c1 => absurd rfl c1) (fun _ => ?_)
        exact no (fun g => hc ⟨by rw [g], by rw [g]⟩) _
    · rw [if_neg hp]
      refine e_Tr_isLike_50 (fun _ => ?_) (fun c1 => absurd rfl c1)
      exact no (fun g => hp (by rw [g])) _
theorem c_Tr_isLike (ht : tr h t es) (hu : tr h u es2) (hs : sme es) (hs2 : sme es2) : tv_Ct G mm_Tr_isLike [.ref t, .ref u] h 0 0 (rv (.int (if es = es2 then 1 else 0)) (fun h' => h' = h)) := by
  have hl := ht.len
  have hl2 := hu.len
  obtain ⟨rs, h1, h2, h3, h4⟩ := ht.row
  obtain ⟨rs', k1, k2, k3, k4⟩ := hu.row
  refine tv_ct rfl (by decide +kernel) (by simp [Value.category]) (Nat.le_of_ble_eq_true rfl) ?_
  refine e_Tr_isLike_0 rfl ?_
  refine e_Tr_isLike_1 h1 rfl ?_
  refine e_Tr_isLike_4 rfl ?_
  refine e_Tr_isLike_5 k1 rfl ?_
  refine e_Tr_isLike_8 (fun c1 => ?_) (fun c1 => ?_)
  · have hlen := (nI_eq (by omega) (by omega)).mp c1
    refine e_Tr_isLike_13  ?_
    refine e_Tr_isLike_14 (Nat.le_of_ble_eq_true rfl) ?_
    exact l_Tr_isLike ht hu hs hs2 hlen es.length 0 rfl none none rfl
  · refine e_Tr_isLike_11  ?_
    exact e_Tr_isLike_12 (Or.inl rfl) ⟨by rw [if_neg (by rintro rfl; exact c1 rfl)], rfl⟩
end
