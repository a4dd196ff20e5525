/-! Path: well-formed, become, replaceStart -/
section
variable {G : tv_G} {h : tv_H} {a b : Nat} {p q : List Nat} {c z : Nat} {Q : tv_R → tv_H → Prop}
theorem l_Pa_isWellFormed (hp : pa h a p) : ∀ j k, j + k = p.length → ∀ n u, n ≤ 4 → wa 0 p = wa n (p.drop k) → tv_Ev G mm_Pa_isWellFormed 4 [some (.ref a), some (.int (nI n)), some (.int (nI k)), u] [] h c z (rv (.int (if wf p = true then 1 else 0)) (fun h' => h' = h)) := by
  have hl := hp.len
  obtain ⟨bs, h1, h2, h3, h4, h5, h6⟩ := id hp
  have bad : wa 0 p = none → ∀ ls, tv_Ev G mm_Pa_isWellFormed 51 ls [] h c z (rv (.int (if wf p = true then 1 else 0)) (fun h' => h' = h)) := by
    intro hn ls
    refine e_Pa_isWellFormed_51  ?_
    exact e_Pa_isWellFormed_52 (Or.inl rfl) ⟨by rw [wf, hn]; rfl, rfl⟩
  intro j
  induction j with
  | zero =>
    intro k hk n u hn hw
    have hk : k = p.length := by omega
    subst hk
    rw [List.drop_length, wa] at hw
    have nlow : ¬ (0 < n ∧ nms p ≤ 4) → ∀ ls, tv_Ev G mm_Pa_isWellFormed 75 ls [] h c z (rv (.int (if wf p = true then 1 else 0)) (fun h' => h' = h)) := by
      intro hx ls
      refine e_Pa_isWellFormed_75  ?_
      refine e_Pa_isWellFormed_76 (Or.inl rfl) ⟨?_, rfl⟩
      rw [wf, hw]
      by_cases g1 : 0 < n
      · by_cases g2 : nms p ≤ 4
        · exact absurd ⟨g1, g2⟩ hx
        · simp [g2]
      · simp [g1]
    refine e_Pa_isWellFormed_4 rfl ?_
    refine e_Pa_isWellFormed_5 rfl ?_
    refine e_Pa_isWellFormed_6 h1 rfl ?_
    refine e_Pa_isWellFormed_9 (fun _ => ?_) (fun c1 => absurd (nI_le (Nat.le_refl _) (by omega)) c1)
    refine e_Pa_isWellFormed_59 rfl ?_
    refine e_Pa_isWellFormed_60 (fun c1 => ?_) (fun c1 => ?_)
    · refine nlow ?_ _
      rintro ⟨g1, -⟩
      exact nI_nle g1 (by omega) c1
    · have g1 : 0 < n := by
        rcases Nat.eq_zero_or_pos n with g | g
        · subst g; exact absurd (by decide) c1
        · exact g
      have hnm : nms p ≤ 20 := by
        unfold nms
        have := List.count_le_length (l := p) (a := 47)
        split <;> omega
      refine e_Pa_isWellFormed_63 rfl ?_
      refine e_Pa_isWellFormed_64 h1 (by decide) (c_Pa_names hp) (kp ?_) xn
      refine e_Pa_isWellFormed_67  ?_
      refine e_Pa_isWellFormed_68 (fun c2 => ?_) (fun c2 => ?_)
      · refine nlow ?_ _
        rintro ⟨-, g2⟩
        exact absurd c2 (nI_nlt (a := 4) g2 (by decide))
      · have g2 : nms p ≤ 4 := by
          rcases Nat.lt_or_ge 4 (nms p) with g | g
          · exact absurd (nI_lt g (by omega)) c2
          · exact g
        refine e_Pa_isWellFormed_71  ?_
        refine e_Pa_isWellFormed_72  ?_
        exact e_Pa_isWellFormed_76 (Or.inr rfl) ⟨by rw [wf, hw]; simp [g1, g2], rfl⟩
  | succ j ih =>
    intro k hk n u hn hw
    obtain ⟨d, hd⟩ : ∃ d, p[k]? = some d := ⟨_, List.getElem?_eq_getElem (by omega)⟩
    have hd6 := h6 d (List.mem_of_getElem? hd)
    have hdr : p.drop k = d :: p.drop (k + 1) := by
      rw [List.drop_eq_getElem_cons (by omega)]
      congr 1
      exact Option.some.inj ((List.getElem?_eq_getElem (by omega)).symm.trans hd)
    rw [hdr, wa] at hw
    refine e_Pa_isWellFormed_4 rfl ?_
    refine e_Pa_isWellFormed_5 rfl ?_
    refine e_Pa_isWellFormed_6 h1 rfl ?_
    refine e_Pa_isWellFormed_9 (fun c1 => absurd c1 (nI_ge (by omega) (by omega))) (fun _ => ?_)
    refine e_Pa_isWellFormed_12 rfl ?_
    refine e_Pa_isWellFormed_13 rfl ?_
    refine e_Pa_isWellFormed_14 h1 (by decide) (c_Pa_signAt hp (by omega)) (kp ?_) xn
    rw [sg_at hd]
    refine e_Pa_isWellFormed_17 (Nat.le_of_ble_eq_true rfl) ?_
    refine e_Pa_isWellFormed_18 rfl ?_
    refine e_Pa_isWellFormed_19  ?_
    have name : ¬ (d = 47 ∧ 0 < n) → tv_Ev G mm_Pa_isWellFormed 33 [some (.ref a), some (.int (nI n)), some (.int (nI k)), some (.int (sb_b d))] [] h c z (rv (.int (if wf p = true then 1 else 0)) (fun h' => h' = h)) := by
      intro hx
      rw [if_neg hx] at hw
      refine e_Pa_isWellFormed_33 rfl ?_
      refine e_Pa_isWellFormed_34 (by decide) (c_Pa_isNameSign hd6) (kp ?_) xn
      refine e_Pa_isWellFormed_37 (fun c1 => ?_) (fun c1 => ?_)
      · have g : ¬ isN d := fun e => by rw [if_pos e] at c1; exact absurd c1 (by decide)
        rw [if_neg (fun e => g e.1)] at hw
        exact bad hw _
      · have g : isN d := by
          by_cases g : isN d
          · exact g
          · rw [if_neg g] at c1; exact absurd rfl c1
        refine e_Pa_isWellFormed_40 rfl ?_
        refine e_Pa_isWellFormed_41  ?_
        refine e_Pa_isWellFormed_42 (fun c2 => ?_) (fun c2 => ?_)
        · have g2 : 4 ≤ n := (nI_leI (a := 4) (by decide) (by omega)).mp c2
          rw [if_neg (fun e => by omega)] at hw
          exact bad hw _
        · have g2 : n < 4 := by
            rcases Nat.lt_or_ge n 4 with q | q
            · exact q
            · exact absurd (nI_le (a := 4) q (by omega)) c2
          rw [if_pos ⟨g, g2⟩] at hw
          refine e_Pa_isWellFormed_45 rfl ?_
          refine e_Pa_isWellFormed_48  ?_
          refine e_Pa_isWellFormed_53 rfl ?_
          refine e_Pa_isWellFormed_56  ?_
          have hi := ih (k + 1) (by omega) (n + 1) (some (.int (sb_b d))) (by omega) hw
          rw [nI_succ, nI_succ] at hi
          exact hi
    refine e_Pa_isWellFormed_21 (fun c1 => ?_) (fun c1 => ?_)
    · exact name (fun e => c1 ((s8_eq hd6 (by decide)).mpr e.1))
    · have e47 : d = 47 := (s8_eq hd6 (by decide)).mp c1
      refine e_Pa_isWellFormed_24 rfl ?_
      refine e_Pa_isWellFormed_25 (fun c2 => ?_) (fun c2 => ?_)
      · exact name (fun e => nI_nle e.2 (by omega) c2)
      · have g1 : 0 < n := by
          rcases Nat.eq_zero_or_pos n with g | g
          · subst g; exact absurd (by decide) c2
          · exact g
        rw [if_pos ⟨e47, g1⟩] at hw
        refine e_Pa_isWellFormed_28  ?_
        refine e_Pa_isWellFormed_29 (Nat.le_of_ble_eq_true rfl) ?_
        refine e_Pa_isWellFormed_30  ?_
        refine e_Pa_isWellFormed_53 rfl ?_
        refine e_Pa_isWellFormed_56  ?_
        have hi := ih (k + 1) (by omega) 0 (some (.int (sb_b d))) (by omega) hw
        rw [nI_succ] at hi
        exact hi
theorem c_Pa_isWellFormed (hp : pa h a p) : tv_Ct G mm_Pa_isWellFormed [.ref a] h 0 0 (rv (.int (if wf p = true then 1 else 0)) (fun h' => h' = h)) := by
  refine tv_ct rfl (by decide +kernel) (by simp [Value.category]) (Nat.le_of_ble_eq_true rfl) ?_
  refine e_Pa_isWellFormed_0  ?_
  refine e_Pa_isWellFormed_1 (Nat.le_of_ble_eq_true rfl) ?_
  refine e_Pa_isWellFormed_2  ?_
  refine e_Pa_isWellFormed_3 (Nat.le_of_ble_eq_true rfl) ?_
  exact l_Pa_isWellFormed hp p.length 0 rfl 0 none (by omega) rfl
/-- the signs of three words -/
def w3 (x y w : Int32) : List Nat := wbk x 4 ++ wbk y 4 ++ wbk w 4
theorem w3_len (x y w : Int32) : (w3 x y w).length ≤ 12 := by
  unfold w3
  rw [List.length_append, List.length_append]
  have := wbk_len x 4
  have := wbk_len y 4
  have := wbk_len w 4
  omega
/-- the path of three words, [] for none -/
def w3p (x y w : Int32) : List Nat := if wf (w3 x y w) = true then w3 x y w else []
theorem c_Pa_readSigns (hp : pa h a p) (x y w : Int32) : tv_Ct G mm_Pa_readSigns [.ref a, .int x, .int y, .int w] h 0 0 (rv (.int (if wf (w3 x y w) = true then 1 else 0)) (fun h' => pa h' a (w3p x y w) ∧ fr (pS a) h h')) := by
  obtain ⟨bs, h1, -⟩ := id hp
  have l1 := wbk_len x 4
  have l2 := wbk_len y 4
  have l3 := wbk_len w 4
  refine tv_ct rfl (by decide +kernel) (by simp [Value.category]) (Nat.le_of_ble_eq_true rfl) ?_
  refine e_Pa_readSigns_0 rfl ?_
  refine e_Pa_readSigns_1 h1 (by decide) (c_Pa_clear hp) (kn ?_) xn
  rintro h2 ⟨p2, f2⟩
  have f2 := f2.mono (S' := pS a) (fun b hb => Or.inl hb)
  obtain ⟨_, g2, -⟩ := id p2
  refine e_Pa_readSigns_4 rfl ?_
  refine e_Pa_readSigns_5 rfl ?_
  refine e_Pa_readSigns_6 g2 (by decide) (c_Pa_appendWord p2 x (by simp)) (kn ?_) xn
  rintro h3 ⟨p3, f3⟩
  rw [List.nil_append] at p3
  obtain ⟨_, g3, -⟩ := id p3
  refine e_Pa_readSigns_9 rfl ?_
  refine e_Pa_readSigns_10 rfl ?_
  refine e_Pa_readSigns_11 g3 (by decide) (c_Pa_appendWord p3 y (by omega)) (kn ?_) xn
  rintro h4 ⟨p4, f4⟩
  obtain ⟨_, g4, -⟩ := id p4
  refine e_Pa_readSigns_14 rfl ?_
  refine e_Pa_readSigns_15 rfl ?_
  refine e_Pa_readSigns_16 g4 (by decide) (c_Pa_appendWord p4 w (by rw [List.length_append]; omega)) (kn ?_) xn
  rintro h5 ⟨p5, f5⟩
  have F := ((f2.tr f3).tr f4).tr f5
  obtain ⟨_, g5, -⟩ := id p5
  have p5 : pa h5 a (w3 x y w) := p5
  refine e_Pa_readSigns_19 rfl ?_
  refine e_Pa_readSigns_20 g5 (by decide) (c_Pa_isWellFormed p5) (kp ?_) xn
  by_cases hw : wf (w3 x y w) = true
  · rw [if_pos hw]
    refine e_Pa_readSigns_23 (fun _ => ?_) (fun c1 => absurd c1 (by decide))
    refine e_Pa_readSigns_30 rfl ?_
    refine e_Pa_readSigns_31 g5 (by decide) (c_Pa_isNone p5) (kp ?_) xn
    rw [if_neg (wf_ne hw)]
    refine e_Pa_readSigns_34 (fun c1 => absurd rfl c1) (fun _ => ?_)
    refine e_Pa_readSigns_37  ?_
    refine e_Pa_readSigns_38  ?_
    exact e_Pa_readSigns_42 (Or.inr rfl) ⟨rfl, by rw [w3p, if_pos hw]; exact p5, F⟩
  · rw [if_neg hw]
    refine e_Pa_readSigns_23 (fun c1 => absurd rfl c1) (fun _ => ?_)
    refine e_Pa_readSigns_26 rfl ?_
    refine e_Pa_readSigns_27 g5 (by decide) (c_Pa_clear p5) (kn ?_) xn
    rintro h6 ⟨p6, f6⟩
    have f6 := f6.mono (S' := pS a) (fun b hb => Or.inl hb)
    obtain ⟨_, g6, -⟩ := id p6
    refine e_Pa_readSigns_30 rfl ?_
    refine e_Pa_readSigns_31 g6 (by decide) (c_Pa_isNone p6) (kp ?_) xn
    rw [if_pos rfl]
    refine e_Pa_readSigns_34 (fun _ => ?_) (fun c1 => absurd c1 (by decide))
    refine e_Pa_readSigns_41  ?_
    exact e_Pa_readSigns_42 (Or.inl rfl) ⟨rfl, by rw [w3p, if_neg hw]; exact p6, F.tr f6⟩
theorem tv_cpy_all {fs gs : List Value} (h : fs.length = gs.length) : tv_cpy fs gs 0 0 fs.length = fs := by
  unfold tv_cpy
  have h9 : gs.drop fs.length = [] := List.drop_eq_nil_of_le (by omega)
  rw [Nat.zero_add, h9]
  simp
theorem c_Pa_become (hp : pa h a p) (hq : pa h b q) (n1 : a ≠ b) (n2 : a + 1 ≠ b) : tv_Ct G mm_Pa_become [.ref a, .ref b] h 0 0 (rn (fun h' => pa h' a q ∧ fr (pS a) h h')) := by
  obtain ⟨bs, h1, h2, h3, h4, h5, h6⟩ := id hp
  obtain ⟨cs, g1, g2, g3, g4, g5, g6⟩ := id hq
  refine tv_ct rfl (by decide +kernel) (by simp [Value.category]) (Nat.le_of_ble_eq_true rfl) ?_
  refine e_Pa_become_0 rfl ?_
  refine e_Pa_become_1 g1 rfl ?_
  refine e_Pa_become_4  ?_
  refine e_Pa_become_5 rfl ?_
  refine e_Pa_become_6 h1 rfl ?_
  refine e_Pa_become_9  ?_
  refine e_Pa_become_10  ?_
  refine e_Pa_become_12 0 0 19 g2 h2 rfl rfl rfl (by simp; omega) (by simp; omega) (by simp; omega) (by simp; omega) (by intro v hv; obtain ⟨d, hd, rfl⟩ := List.mem_map.mp hv; exact g5 d hd) (by decide) ?_
  have e1 : tv_cpy (cs.map Value.int) (bs.map Value.int) 0 0 19 = cs.map Value.int := by
    have := tv_cpy_all (fs := cs.map Value.int) (gs := bs.map Value.int) (by simp; omega)
    rw [List.length_map, g3] at this
    exact this
  rw [e1]
  have k1 : (h.set (a + 1) (100, cs.map Value.int))[b]? = some (2, [.ref (b + 1), .int (nI q.length)]) := gs_ne g1 n2
  have k2 : (h.set (a + 1) (100, cs.map Value.int))[a]? = some (2, [.ref (a + 1), .int (nI p.length)]) := gs_ne h1 (by omega)
  refine e_Pa_become_15 rfl ?_
  refine e_Pa_become_16 rfl ?_
  refine e_Pa_become_17 k1 rfl ?_
  refine e_Pa_become_20 k2 (Nat.le_of_ble_eq_true rfl) ?_
  exact e_Pa_become_23 ⟨rfl, ⟨cs, gs_eq k2, gs_ne (gs_eq h2) (by omega), g3, g4, g5, g6⟩, (fr.set (Or.inr rfl)).tr (fr.set (Or.inl rfl))⟩
end
