/-! the reference: longest, move -/
section
variable {G : tv_G} {h h' : tv_H} {th us x y w : Int32} {M : mM} {c z r t a b : Nat} {p q q1 q2 u : List Nat} {es fs : List tE} {s : tT} {f g : tE} {bs cs : List Nat}
theorem bw_cnt {p u : List Nat} (hb : bw p u) : u.count 47 < p.count 47 := by
  obtain ⟨r, rfl⟩ := bw_iff.mp hb
  rw [List.count_append, List.count_cons_self]
  omega
theorem l_Mo_longest (ht : t < 3) (hm : mh h th us M) (hes : mt M t es) (oe : ∀ f ∈ es, okE f) (h1 : mp M 120 q1) (h2 : mp M 121 q2) (s1 : sm q1) (s2 : sm q2) (n1 : q1 ≠ []) (n2 : q2 ≠ []) : ∀ j k, j + k = es.length → dpk q1 (es.take k) ≤ 21 → ∀ g4 g5, tv_Ev G mm_Mo_longest 9 [some (.ref 497), some (.int (nI t)), some (.int (nI (dpk q1 (es.take k) - nms q1 + nms q2))), some (.int (nI k)), g4, g5] [] h c z (rv (.int (nI (dpk q1 es - nms q1 + nms q2))) (fun h' => h' = h ∧ dpk q1 es ≤ 21)) := by
  have hl := hes.2.1
  have l1 := h1.2.1
  have l2 := h2.2.1
  have c1' := List.count_le_length (l := q1) (a := 47)
  have c2' := List.count_le_length (l := q2) (a := 47)
  have m1 := nms_c n1
  have m2 := nms_c n2
  intro j
  induction j with
  | zero =>
    intro k hk hd g4 g5
    have hk : k = es.length := by omega
    subst hk
    rw [List.take_length] at hd ⊢
    refine e_Mo_longest_9 rfl ?_
    refine e_Mo_longest_10 rfl ?_
    refine e_Mo_longest_11 hm.1 rfl ?_
    refine e_Mo_longest_14 rfl ?_
    refine e_Mo_longest_15 (t) hm.a2 rfl (md (a := 2) (show t < 3 by omega)) mlen ?_
    rw [hes.1]
    refine e_Mo_longest_16 (fun _ => ?_) (fun c1 => absurd (nI_le (Nat.le_refl _) (by omega)) c1)
    refine e_Mo_longest_83 rfl ?_
    exact e_Mo_longest_84 ⟨rfl, rfl, hd⟩
  | succ j ih =>
    intro k hk hd g4 g5
    have hek : es[k]? = some es[k] := List.getElem?_eq_getElem (by omega)
    have hmk := hes.2.2 k _ hek
    have ok := oe _ (List.getElem_mem (show k < es.length by omega))
    have hpl20 := hmk.1.2.1
    have n3 := List.count_le_length (l := es[k].1) (a := 47)
    have m3 := nms_c ok.n
    have dg := dpk_ge (q := q1) (es.take k)
    have hi := ih (k + 1) (by omega)
    have hst : dpk q1 (es.take (k + 1)) = if bw es[k].1 q1 then max (dpk q1 (es.take k)) (nms es[k].1) else dpk q1 (es.take k) := by rw [take_g hek, dpk_s]
    rw [nI_succ k] at hi
    refine e_Mo_longest_9 rfl ?_
    refine e_Mo_longest_10 rfl ?_
    refine e_Mo_longest_11 hm.1 rfl ?_
    refine e_Mo_longest_14 rfl ?_
    refine e_Mo_longest_15 (t) hm.a2 rfl (md (a := 2) (show t < 3 by omega)) mlen ?_
    rw [hes.1]
    refine e_Mo_longest_16 (fun c1 => absurd c1 (nI_ge (by omega) (by omega))) (fun _ => ?_)
    refine e_Mo_longest_19  ?_
    refine e_Mo_longest_21 rfl ?_
    refine e_Mo_longest_22  ?_
    refine e_Mo_longest_23 rfl ?_
    refine e_Mo_longest_24  ?_
    rw [ix40]
    refine e_Mo_longest_25 (Nat.le_of_ble_eq_true rfl) ?_
    refine e_Mo_longest_27 rfl ?_
    refine e_Mo_longest_28 rfl ?_
    refine e_Mo_longest_30  ?_
    refine e_Mo_longest_32 hm.1 (by decide) (c_Mo_isBelow hm (a := 40 * t + k) (b := 120) (by omega) (by decide) hmk.1 h1 ok.s s1) (kp ?_) xn
    by_cases w : bw es[k].1 q1
    · rw [if_pos w] at hst ⊢
      have hlt := bw_cnt w
      refine e_Mo_longest_35 (fun c1 => absurd c1 (by decide)) (fun _ => ?_)
      refine e_Mo_longest_38 rfl ?_
      refine e_Mo_longest_39 rfl ?_
      refine e_Mo_longest_41 hm.1 (by decide) (c_Mo_names hm (a := 40 * t + k) (by omega) hmk.1 ok.s) (kp ?_) xn
      refine e_Mo_longest_44 rfl ?_
      refine e_Mo_longest_45  ?_
      refine e_Mo_longest_47 hm.1 (Nat.le_of_ble_eq_true rfl) (c_Mo_names hm (a := 120) (by decide) h1 s1) (kp ?_) xn
      refine e_Mo_longest_50  ?_
      refine e_Mo_longest_51 rfl ?_
      refine e_Mo_longest_52  ?_
      refine e_Mo_longest_54 hm.1 (Nat.le_of_ble_eq_true rfl) (c_Mo_names hm (a := 121) (by decide) h2 s2) (kp ?_) xn
      rw [← m3, ← m1, ← m2]
      refine e_Mo_longest_57  ?_
      rw [pk_sub (by omega), nI_add]
      refine e_Mo_longest_58  ?_
      refine e_Mo_longest_62 (Nat.le_of_ble_eq_true rfl) ?_
      refine e_Mo_longest_64 rfl ?_
      refine e_Mo_longest_66 rfl ?_
      have em : ∀ v : Int32, (v = nI (dpk q1 (es.take (k + 1)) - nms q1 + nms q2)) → tv_Ev G mm_Mo_longest 76 [some (.ref 497), some (.int (nI t)), some (.int (nI (dpk q1 (es.take k) - nms q1 + nms q2))), some (.int (nI k)), some (.int (nI (40 * t + k))), some (.int (nI (nms es[k].1 - nms q1 + nms q2)))] [.int v] h c z (rv (.int (nI (dpk q1 es - nms q1 + nms q2))) (fun h' => h' = h ∧ dpk q1 es ≤ 21)) := by
        rintro v rfl
        refine e_Mo_longest_76 (Nat.le_of_ble_eq_true rfl) ?_
        refine e_Mo_longest_77 rfl ?_
        refine e_Mo_longest_80  ?_
        exact hi (by rw [hst]; exact Nat.max_le.mpr ⟨hd, by omega⟩) _ _
      refine e_Mo_longest_67 (fun c1 => ?_) (fun c1 => ?_)
      · have c1 := (nI_leI (by omega) (by omega)).mp c1
        refine e_Mo_longest_75 rfl ?_
        refine em _ ?_
        rw [hst, Nat.max_eq_left (by omega)]
      · have c1 : dpk q1 (es.take k) - nms q1 + nms q2 < nms es[k].1 - nms q1 + nms q2 := by
          rcases Nat.lt_or_ge (dpk q1 (es.take k) - nms q1 + nms q2) (nms es[k].1 - nms q1 + nms q2) with q | q
          · exact q
          · exact absurd (nI_le q (by omega)) c1
        refine e_Mo_longest_70 rfl ?_
        refine e_Mo_longest_72  ?_
        refine em _ ?_
        rw [hst, Nat.max_eq_right (by omega)]
    · rw [if_neg w] at hst ⊢
      rw [hst] at hi
      refine e_Mo_longest_35 (fun _ => ?_) (fun c1 => absurd rfl c1)
      refine e_Mo_longest_61  ?_
      refine e_Mo_longest_62 (Nat.le_of_ble_eq_true rfl) ?_
      refine e_Mo_longest_64 rfl ?_
      refine e_Mo_longest_66 rfl ?_
      refine e_Mo_longest_67 (fun _ => ?_) (fun c1 => absurd (nI_le (a := 0) (Nat.zero_le _) (by omega)) c1)
      refine e_Mo_longest_75 rfl ?_
      refine e_Mo_longest_76 (Nat.le_of_ble_eq_true rfl) ?_
      refine e_Mo_longest_77 rfl ?_
      refine e_Mo_longest_80  ?_
      exact hi hd _ _
theorem c_Mo_longest (ht : t < 3) (hm : mh h th us M) (hes : mt M t es) (oe : ∀ f ∈ es, okE f) (h1 : mp M 120 q1) (h2 : mp M 121 q2) (s1 : sm q1) (s2 : sm q2) (n1 : q1 ≠ []) (n2 : q2 ≠ []) : tv_Ct G mm_Mo_longest [.ref 497, .int (nI t)] h 0 0 (rv (.int (nI (dpk q1 es - nms q1 + nms q2))) (fun h' => h' = h ∧ dpk q1 es ≤ 21)) := by
  have l1 := h1.2.1
  have c1' := List.count_le_length (l := q1) (a := 47)
  have m1 := nms_c n1
  have e0 : dpk q1 [] = nms q1 := rfl
  refine tv_ct rfl (by decide +kernel) (by simp [Value.category]) (Nat.le_of_ble_eq_true rfl) ?_
  refine e_Mo_longest_0 rfl ?_
  refine e_Mo_longest_1  ?_
  refine e_Mo_longest_3 hm.1 (by decide) (c_Mo_names hm (a := 121) (by decide) h2 s2) (kp ?_) xn
  refine e_Mo_longest_6 (Nat.le_of_ble_eq_true rfl) ?_
  refine e_Mo_longest_7  ?_
  refine e_Mo_longest_8 (Nat.le_of_ble_eq_true rfl) ?_
  have := l_Mo_longest (G := G) (c := 0) (z := 0) ht hm hes oe h1 h2 s1 s2 n1 n2 es.length 0 rfl (by rw [List.take_zero, e0]; omega) none none
  rw [List.take_zero, e0, Nat.sub_self, Nat.zero_add] at this
  rw [← nms_c n2]
  exact this
/-- the rest of a moved path -/
theorem l_Mo_move1 {v5 v6 v7 : Int32} {a_ b_ d_ : Int32} {i n1 : Nat} {Q : tv_R → tv_H → Prop} {u11 : Option Value} {tl_ : List Nat} (hi : i < 40) (hn1 : n1 ≤ 20) (hle : q2.length + tl_.length ≤ 19) (hpl : n1 + tl_.length ≤ 20) (hk : ∀ hc M', mh hc th us M' → fr mS h hc → km (fun r => r = 122) no_ M M' → mp M' 122 (q2 ++ tl_) → tv_Ev G mm_Mo_move 279 [some (.ref 497), some (.int x), some (.int a_), some (.int b_), some (.int d_), some (.int v5), some (.int v6), some (.int v7), some (.int (nI i)), some (.int (nI (80 + i))), some (.int (nI (n1 + tl_.length))), u11] [] hc c z Q) (hM1 : M 1 (80 + i) = nI (n1 + tl_.length)) (hM0 : ∀ m c, tl_[m]? = some c → M 0 (20 * (80 + i) + (n1 + m)) = nI c) : ∀ j m, j + m = tl_.length → ∀ hc M', mh hc th us M' → fr mS h hc → km (fun r => r = 122) no_ M M' → mp M' 122 (q2 ++ tl_.take m) → tv_Ev G mm_Mo_move 221 [some (.ref 497), some (.int x), some (.int a_), some (.int b_), some (.int d_), some (.int v5), some (.int v6), some (.int v7), some (.int (nI i)), some (.int (nI (80 + i))), some (.int (nI (n1 + m))), u11] [] hc c z Q := by
  intro j
  induction j with
  | zero =>
    intro m hm0 hc M' hm hf hkm hp
    have hm0 : m = tl_.length := by omega
    subst hm0
    rw [List.take_length] at hp
    have e1 : M' 1 (80 + i) = nI (n1 + tl_.length) := (hkm.1 (80 + i) (by omega)).1.trans hM1
    refine e_Mo_move_221 rfl ?_
    refine e_Mo_move_223 rfl ?_
    refine e_Mo_move_224 hm.1 rfl ?_
    refine e_Mo_move_227 rfl ?_
    refine e_Mo_move_229 (80 + i) hm.a1 rfl (md (a := 1) (show 80 + i < 124 by omega)) mlen ?_
    rw [e1]
    refine e_Mo_move_230 (fun _ => ?_) (fun c1 => absurd (nI_le (Nat.le_refl _) (by omega)) c1)
    exact hk hc M' hm hf hkm hp
  | succ j ih =>
    intro m hm0 hc M' hm hf hkm hp
    have htm : tl_[m]? = some tl_[m] := List.getElem?_eq_getElem (by omega)
    have e1 : M' 1 (80 + i) = nI (n1 + tl_.length) := (hkm.1 (80 + i) (by omega)).1.trans hM1
    have e0 : M' 0 (20 * (80 + i) + (n1 + m)) = nI tl_[m] := ((hkm.1 (80 + i) (by omega)).2.1 (n1 + m) (by omega)).trans (hM0 m _ htm)
    have hlen : (q2 ++ tl_.take m).length = q2.length + m := by rw [List.length_append, List.length_take]; omega
    have e2 := hp.1
    rw [hlen] at e2
    refine e_Mo_move_221 rfl ?_
    refine e_Mo_move_223 rfl ?_
    refine e_Mo_move_224 hm.1 rfl ?_
    refine e_Mo_move_227 rfl ?_
    refine e_Mo_move_229 (80 + i) hm.a1 rfl (md (a := 1) (show 80 + i < 124 by omega)) mlen ?_
    rw [e1]
    refine e_Mo_move_230 (fun c1 => absurd c1 (nI_ge (by omega) (by omega))) (fun _ => ?_)
    refine e_Mo_move_233 rfl ?_
    refine e_Mo_move_234 hm.1 rfl ?_
    refine e_Mo_move_237  ?_
    refine e_Mo_move_240 rfl ?_
    refine e_Mo_move_241 hm.1 rfl ?_
    refine e_Mo_move_244  ?_
    refine e_Mo_move_246 (122) hm.a1 rfl (md (a := 1) (show 122 < 124 by omega)) mlen ?_
    rw [e2]
    refine e_Mo_move_247  ?_
    refine e_Mo_move_248 rfl ?_
    refine e_Mo_move_249 hm.1 rfl ?_
    refine e_Mo_move_252  ?_
    refine e_Mo_move_254 rfl ?_
    refine e_Mo_move_256  ?_
    refine e_Mo_move_257 rfl ?_
    refine e_Mo_move_259  ?_
    refine e_Mo_move_260 (20 * (80 + i) + (n1 + m)) hm.a0 (ix20 _ _) (md (a := 0) (show 20 * (80 + i) + (n1 + m) < 2480 by omega)) mlen ?_
    refine e_Mo_move_261 (20 * 122 + (q2.length + m)) hm.a0 (nI_add 2440 _) (ml (a := 0) (show 20 * 122 + (q2.length + m) < 2480 by omega)) mlen ?_
    rw [e0]
    have hm2 := hm.s0 (i := 20 * 122 + (q2.length + m)) (v := nI tl_[m])
    have k2 : km (fun r => r = 122) no_ M' (mu M' 0 (20 * 122 + (q2.length + m)) (nI tl_[m])) := km.mu0 (by omega)
    refine e_Mo_move_262 rfl ?_
    refine e_Mo_move_263 hm2.1 rfl ?_
    refine e_Mo_move_266  ?_
    refine e_Mo_move_268 rfl rfl ?_
    refine e_Mo_move_269 (122) hm2.a1 rfl (md (a := 1) (show 122 < 124 by omega)) mlen ?_
    rw [mu_ne (by omega), e2]
    refine e_Mo_move_270  ?_
    refine e_Mo_move_271  ?_
    refine e_Mo_move_272 (122) hm2.a1 rfl (ml (a := 1) (show 122 < 124 by omega)) mlen ?_
    rw [nI_1]
    have hm3 := hm2.s1 (i := 122) (v := nI (q2.length + m + 1))
    refine e_Mo_move_273 rfl ?_
    refine e_Mo_move_276  ?_
    rw [nI_1]
    refine ih (m + 1) (by omega) _ _ hm3 ((hf.tr (fr.set ⟨by omega, by omega⟩)).tr (fr.set ⟨by omega, by omega⟩)) ((hkm.tr k2).tr km.mu1) ?_
    rw [take_g htm, ← List.append_assoc]
    refine ⟨?_, ?_, fun k c hk => ?_⟩
    · rw [mu_at, List.length_append, hlen]; rfl
    · rw [List.length_append, hlen, List.length_singleton]; omega
    · rw [mu_ne (by omega)]
      rcases Nat.lt_or_ge k (q2.length + m) with w | w
      · rw [List.getElem?_append_left (by omega)] at hk
        rw [mu_ne (by omega)]
        exact hp.2.2 k c hk
      · rw [List.getElem?_append_right (by omega)] at hk
        have hk0 : k = q2.length + m := by
          have := (List.getElem?_eq_some_iff.mp hk).1
          rw [List.length_singleton, hlen] at this
          omega
        subst hk0
        rw [hlen, Nat.sub_self] at hk
        rw [mu_at, ← Option.some.inj hk]
theorem l_Mo_move2 {v5 v6 v7 : Int32} {a_ b_ d_ : Int32} {i e : Nat} {kd : Int32} {Q : tv_R → tv_H → Prop} (hi : i < 40) (he : e < 80) (hc16 : cs.length ≤ 16) (hk : ∀ hc M' u, mh hc th us M' → fr mS h hc → km (fun r => r = e) no_ M M' → me M' e (p, kd, cs) → tv_Ev G mm_Mo_move 356 [some (.ref 497), some (.int x), some (.int a_), some (.int b_), some (.int d_), some (.int v5), some (.int v6), some (.int v7), some (.int (nI i)), some (.int (nI (80 + i))), some (.int (nI e)), u] [] hc c z Q) (hM4 : M 4 (80 + i) = nI cs.length) (hM5 : ∀ m c, cs[m]? = some c → M 5 (16 * (80 + i) + m) = nI c) : ∀ j m, j + m = cs.length → ∀ hc M', mh hc th us M' → fr mS h hc → km (fun r => r = e) no_ M M' → mp M' e p → M' 3 e = kd → M' 4 e = nI cs.length → (∀ k c, k < m → cs[k]? = some c → M' 5 (16 * e + k) = nI c) → tv_Ev G mm_Mo_move 312 [some (.ref 497), some (.int x), some (.int a_), some (.int b_), some (.int d_), some (.int v5), some (.int v6), some (.int v7), some (.int (nI i)), some (.int (nI (80 + i))), some (.int (nI e)), some (.int (nI m))] [] hc c z Q := by
  intro j
  induction j with
  | zero =>
    intro m hm0 hc M' hm hf hkm hp h3 h4 h5
    have hm0 : m = cs.length := by omega
    subst hm0
    have e1 : M' 4 (80 + i) = nI cs.length := (hkm.1 (80 + i) (by omega)).2.2.2.1.trans hM4
    refine e_Mo_move_312 rfl ?_
    refine e_Mo_move_314 rfl ?_
    refine e_Mo_move_315 hm.1 rfl ?_
    refine e_Mo_move_318 rfl ?_
    refine e_Mo_move_320 (80 + i) hm.a4 rfl (md (a := 4) (show 80 + i < 120 by omega)) mlen ?_
    rw [e1]
    refine e_Mo_move_321 (fun _ => ?_) (fun c1 => absurd (nI_le (Nat.le_refl _) (by omega)) c1)
    exact hk hc M' _ hm hf hkm ⟨hp, h3, h4, hc16, fun k c hk => h5 k c (List.getElem?_eq_some_iff.mp hk).1 hk⟩
  | succ j ih =>
    intro m hm0 hc M' hm hf hkm hp h3 h4 h5
    have htm : cs[m]? = some cs[m] := List.getElem?_eq_getElem (by omega)
    have e1 : M' 4 (80 + i) = nI cs.length := (hkm.1 (80 + i) (by omega)).2.2.2.1.trans hM4
    have e0 : M' 5 (16 * (80 + i) + m) = nI cs[m] := ((hkm.1 (80 + i) (by omega)).2.2.2.2 m (by omega)).trans (hM5 m _ htm)
    refine e_Mo_move_312 rfl ?_
    refine e_Mo_move_314 rfl ?_
    refine e_Mo_move_315 hm.1 rfl ?_
    refine e_Mo_move_318 rfl ?_
    refine e_Mo_move_320 (80 + i) hm.a4 rfl (md (a := 4) (show 80 + i < 120 by omega)) mlen ?_
    rw [e1]
    refine e_Mo_move_321 (fun c1 => absurd c1 (nI_ge (by omega) (by omega))) (fun _ => ?_)
    refine e_Mo_move_324 rfl ?_
    refine e_Mo_move_325 hm.1 rfl ?_
    refine e_Mo_move_328  ?_
    refine e_Mo_move_330 rfl ?_
    refine e_Mo_move_332  ?_
    refine e_Mo_move_333 rfl ?_
    refine e_Mo_move_335  ?_
    refine e_Mo_move_336 rfl ?_
    refine e_Mo_move_337 hm.1 rfl ?_
    refine e_Mo_move_340  ?_
    refine e_Mo_move_342 rfl ?_
    refine e_Mo_move_344  ?_
    refine e_Mo_move_345 rfl ?_
    refine e_Mo_move_347  ?_
    refine e_Mo_move_348 (16 * (80 + i) + m) hm.a5 (ix16 _ _) (md (a := 5) (show 16 * (80 + i) + m < 1920 by omega)) mlen ?_
    refine e_Mo_move_349 (16 * e + m) hm.a5 (ix16 _ _) (ml (a := 5) (show 16 * e + m < 1920 by omega)) mlen ?_
    rw [e0]
    have hm2 := hm.s5 (i := 16 * e + m) (v := nI cs[m])
    have k2 : km (fun r => r = e) no_ M' (mu M' 5 (16 * e + m) (nI cs[m])) := km.mu5 (by omega)
    refine e_Mo_move_350 rfl ?_
    refine e_Mo_move_353  ?_
    have := ih (m + 1) (by omega) _ _ hm2 (hf.tr (fr.set ⟨by omega, by omega⟩)) (hkm.tr k2) (hp.k (mu_ne (by omega)) (fun _ _ => mu_ne (by omega))) ((mu_ne (by omega)).trans h3) ((mu_ne (by omega)).trans h4) (fun k c hk hc => ?_)
    · rw [nI_succ] at this
      exact this
    · by_cases e9 : k = m
      · subst e9
        rw [htm] at hc
        rw [mu_at, ← Option.some.inj hc]
      · rw [mu_ne (by omega)]
        exact h5 k c (by omega) hc
theorem l_Mo_move {v6 v7 : Int32} {a_ b_ d_ : Int32} (hx : it x) (hss : mss M s) (ok : okX s) (w2 : wf q2 = true) (hc_ : csh (gt s x) s.2.2.1 q2) : ∀ j i, j + i = (gt s x).length → ∀ hc M' u9 u10 u11, mh hc (nI 0) (nI (lyb s).length) M' → fr mS h hc → km (fun r => trs (tn x) r ∨ un r) (fun u => u = tn x ∨ u = 2) M M' → mt M' 2 (gt s x) → mp M' 120 s.2.2.1 → mp M' 121 q2 → mt M' (tn x) (rmv s.2.2.1 q2 (gt s x) i) → tv_Ev G mm_Mo_move 161 [some (.ref 497), some (.int x), some (.int a_), some (.int b_), some (.int d_), some (.int 1), some (.int v6), some (.int v7), some (.int (nI i)), u9, u10, u11] [] hc c z (rn (fun h' => msr h' (nI 0) (st s x (sft s.2.2.1 q2 (gt s x))) ∧ fr mS h h')) := by
  have ht2 := tn_lt x
  have okt := ok.tree x
  obtain ⟨f0, -, -, w1⟩ := csh_q1 okt hc_
  have s1 := wf_sm w1
  have l1 := wf_len w1
  intro j
  induction j with
  | zero =>
    intro i hi hc M' u9 u10 u11 hm hf hkm t2 p1 p2 tt
    have hi : i = (gt s x).length := by omega
    subst hi
    have hl := t2.2.1
    rw [rmv_sft okt w2 hc_] at tt
    refine e_Mo_move_161 rfl ?_
    refine e_Mo_move_163 rfl ?_
    refine e_Mo_move_164 hm.1 rfl ?_
    refine e_Mo_move_167  ?_
    refine e_Mo_move_168 (2) hm.a2 rfl (md (a := 2) (show 2 < 3 by omega)) mlen ?_
    rw [t2.1]
    refine e_Mo_move_169 (fun _ => ?_) (fun c1 => absurd (nI_le (Nat.le_refl _) (by omega)) c1)
    refine e_Mo_move_362 ⟨rfl, ⟨M', ?_, hss.upd tt hkm⟩, hf⟩
    rw [lyb_st]
    exact hm
  | succ j ih =>
    intro i hi hc M' u9 u10 u11 hm hf hkm t2 p1 p2 tt
    have hl := t2.2.1
    have hei : (gt s x)[i]? = some (gt s x)[i] := List.getElem?_eq_getElem (by omega)
    have hmem : (gt s x)[i] ∈ gt s x := List.getElem_mem _
    have oi := okt.e hmem
    have hme : me M' (80 + i) (gt s x)[i] := t2.2.2 i _ hei
    have hrs := rmv_s (q1 := s.2.2.1) (q2 := q2) hei
    have ih := ih (i + 1) (by omega)
    rw [hrs, nI_succ i] at ih
    have mv : mvd s.2.2.1 (gt s x)[i] → tv_Ev G mm_Mo_move 204 [some (.ref 497), some (.int x), some (.int a_), some (.int b_), some (.int d_), some (.int 1), some (.int v6), some (.int v7), some (.int (nI i)), some (.int (nI (80 + i))), u10, u11] [] hc c z (rn (fun h' => msr h' (nI 0) (st s x (sft s.2.2.1 q2 (gt s x))) ∧ fr mS h h')) := by
      intro hmv
      rw [if_pos hmv] at ih
      obtain ⟨t, htl, -⟩ := mvd_app hmv
      have hwf := mv_wf okt w2 hc_ hmem hmv
      have hE := mvp_app (q2 := q2) hmv htl
      have hl19 := wf_len hwf
      rw [hE] at hl19 hwf ih
      have hl19 : (q2 ++ t).length ≤ 19 := hl19
      have hwf : wf (q2 ++ t) = true := hwf
      rw [List.length_append] at hl19
      have hfl : (gt s x)[i].1.length = s.2.2.1.length + t.length := by rw [htl, List.length_append]
      have hl20 := hme.1.2.1
      have hlr := rmv_len (q1 := s.2.2.1) (q2 := q2) (es := gt s x) i (by omega)
      rw [drop_g hei, List.filter_cons_of_pos (p := fun f => decide (mvd s.2.2.1 f)) (decide_eq_true hmv), List.length_cons] at hlr
      have hrok : ∀ y ∈ rmv s.2.2.1 q2 (gt s x) i, okE y := rmv_ok okt w2 hc_
      refine e_Mo_move_204 rfl ?_
      refine e_Mo_move_205  ?_
      refine e_Mo_move_207  ?_
      refine e_Mo_move_209 hm.1 (by decide) (c_Mo_copyPath hm (a := 121) (b := 122) (by decide) (by decide)) (kn ?_) xn
      rintro h2 ⟨hm2, f2⟩
      have k2 : km (fun r => r = 122) no_ M' (cpM M' 121 122) := km.cp
      have p12 := k2.p (r := 120) (by decide) p1
      have me2 := k2.e (r := 80 + i) (by omega) hme
      refine e_Mo_move_212 rfl ?_
      refine e_Mo_move_213 hm2.1 rfl ?_
      refine e_Mo_move_216  ?_
      refine e_Mo_move_218 (120) hm2.a1 rfl (md (a := 1) (show 120 < 124 by omega)) mlen ?_
      refine e_Mo_move_219 (Nat.le_of_ble_eq_true rfl) ?_
      rw [p12.1]
      refine l_Mo_move1 (M := cpM M' 121 122) (h := h) (n1 := s.2.2.1.length) (tl_ := t) (q2 := q2) (by omega) (by omega) (by omega) (by omega) (fun h3 M3 hm3 f3 k3 p3 => ?_) ?_ ?_ t.length 0 (Nat.add_zero _) h2 _ hm2 (hf.tr f2) km.rf ?_
      · have k23 := k2.tr k3
        have t3 := k23.t (u := tn x) (fun q => q) (fun i hi => by omega) tt
        have me3 := k23.e (r := 80 + i) (by omega) hme
        refine e_Mo_move_279 rfl ?_
        refine e_Mo_move_280 rfl ?_
        refine e_Mo_move_281  ?_
        refine e_Mo_move_283 rfl ?_
        refine e_Mo_move_284 hm3.1 rfl ?_
        refine e_Mo_move_287 rfl ?_
        refine e_Mo_move_289 (80 + i) hm3.a3 rfl (md (a := 3) (show 80 + i < 120 by omega)) mlen ?_
        rw [me3.2.1]
        have hct := c_Mo_insert (G := G) (kd := (gt s x)[i].2.1) hm3 (t := tn x) (r := 122) (by omega) (by decide) (by decide) t3 (by omega) p3 (oks hrok) (wf_sm hwf)
        rw [← tn_x hx] at hct
        refine e_Mo_move_290 hm3.1 (by decide) hct (kv ?_) xn
        rintro h4 ⟨⟨M4, hm4, t4, k4⟩, f4⟩
        clear hct
        have hfi := fi_le (rmv s.2.2.1 q2 (gt s x) i) (q2 ++ t)
        have me4 := k4.e (r := 80 + i) (fun w => by have := w.2; omega) me3
        have meF := t4.2.2 (fi (rmv s.2.2.1 q2 (gt s x) i) (q2 ++ t)) _ (by rw [iat_get hfi, if_neg (by omega), if_pos rfl])
        refine e_Mo_move_293 (Nat.le_of_ble_eq_true rfl) ?_
        refine e_Mo_move_295 rfl ?_
        refine e_Mo_move_296 hm4.1 rfl ?_
        refine e_Mo_move_299 rfl ?_
        refine e_Mo_move_301 rfl ?_
        refine e_Mo_move_302 hm4.1 rfl ?_
        refine e_Mo_move_305 rfl ?_
        refine e_Mo_move_307 (80 + i) hm4.a4 rfl (md (a := 4) (show 80 + i < 120 by omega)) mlen ?_
        refine e_Mo_move_308 (40 * tn x + (fi (rmv s.2.2.1 q2 (gt s x) i) (q2 ++ t))) hm4.a4 rfl (ml (a := 4) (show 40 * tn x + (fi (rmv s.2.2.1 q2 (gt s x) i) (q2 ++ t)) < 120 by omega)) mlen ?_
        rw [me4.2.2.1]
        have hm5 := hm4.s4 (i := 40 * tn x + (fi (rmv s.2.2.1 q2 (gt s x) i) (q2 ++ t))) (v := nI (gt s x)[i].2.2.length)
        have k5 : km (fun r => r = 40 * tn x + (fi (rmv s.2.2.1 q2 (gt s x) i) (q2 ++ t))) no_ M4 (mu M4 4 (40 * tn x + (fi (rmv s.2.2.1 q2 (gt s x) i) (q2 ++ t))) (nI (gt s x)[i].2.2.length)) := km.mu4
        have me5 := k5.e (r := 80 + i) (by omega) me4
        refine e_Mo_move_309  ?_
        refine e_Mo_move_310 (Nat.le_of_ble_eq_true rfl) ?_
        refine l_Mo_move2 (M := mu M4 4 (40 * tn x + (fi (rmv s.2.2.1 q2 (gt s x) i) (q2 ++ t))) (nI (gt s x)[i].2.2.length)) (h := h) (e := 40 * tn x + (fi (rmv s.2.2.1 q2 (gt s x) i) (q2 ++ t))) (cs := (gt s x)[i].2.2) (p := q2 ++ t) (kd := (gt s x)[i].2.1) (by omega) (by omega) me5.2.2.2.1 (fun h6 M6 u hm6 f6 k6 e6 => ?_) me5.2.2.1 me5.2.2.2.2 (gt s x)[i].2.2.length 0 (Nat.add_zero _) _ _ hm5 ((f3.tr f4).tr (fr.set ⟨by omega, by omega⟩)) km.rf (meF.1.k (mu_ne (by omega)) (fun _ _ => mu_ne (by omega))) ((mu_ne (by omega)).trans meF.2.1) mu_at (fun k c hk => by omega)
        have k56 := k5.tr k6
        have t6 := t4.set (f := (q2 ++ t, (gt s x)[i].2.1, (gt s x)[i].2.2)) (by rw [iat_len hfi]; omega) k56 e6
        rw [iat_set hfi] at t6
        have k46 : km (fun r => trs (tn x) r ∨ un r) (fun u => u = tn x ∨ u = 2) M' M6 := ((k23.mono (by rintro r rfl; exact Or.inr ⟨by omega, by omega⟩) (fun _ q => q.elim)).tr (k4.mono (fun _ q => Or.inl q) (fun _ q => Or.inl q))).tr (k56.mono (by rintro r rfl; exact Or.inl ⟨by omega, by omega⟩) (fun _ q => q.elim))
        refine e_Mo_move_356 rfl ?_
        refine e_Mo_move_359  ?_
        refine ih h6 M6 _ _ _ hm6 f6 (hkm.tr k46) ?_ ?_ ?_ t6
        · refine k56.t (fun q => q) (fun i hi => by omega) (k4.t (by omega) (fun i hi w => by have := w.2; omega) (k23.t (fun q => q) (fun i hi => by omega) t2))
        · exact k56.p (by omega) (k4.p (fun w => by have := w.2; omega) (k23.p (by decide) p1))
        · exact k56.p (by omega) (k4.p (fun w => by have := w.2; omega) (k23.p (by decide) p2))
      · rw [← hfl]; exact me2.1.1
      · intro m c hm
        refine me2.1.2.2 _ c ?_
        rw [htl, List.getElem?_append_right (by omega), Nat.add_sub_cancel_left]
        exact hm
      · rw [List.take_zero, List.append_nil]
        exact cp_at p2
    refine e_Mo_move_161 rfl ?_
    refine e_Mo_move_163 rfl ?_
    refine e_Mo_move_164 hm.1 rfl ?_
    refine e_Mo_move_167  ?_
    refine e_Mo_move_168 (2) hm.a2 rfl (md (a := 2) (show 2 < 3 by omega)) mlen ?_
    rw [t2.1]
    refine e_Mo_move_169 (fun c1 => absurd c1 (nI_ge (by omega) (by omega))) (fun _ => ?_)
    refine e_Mo_move_172  ?_
    refine e_Mo_move_174 rfl ?_
    refine e_Mo_move_176  ?_
    rw [show (80 : Int32) + nI i = nI (80 + i) from nI_add 80 i]
    refine e_Mo_move_177 (Nat.le_of_ble_eq_true rfl) ?_
    refine e_Mo_move_179 rfl ?_
    refine e_Mo_move_180 rfl ?_
    refine e_Mo_move_182  ?_
    refine e_Mo_move_184 hm.1 (by decide) (c_Mo_order hm (a := 80 + i) (b := 120) (by omega) (by decide) hme.1 p1 oi.s s1) (kp ?_) xn
    by_cases g1 : (gt s x)[i].1 = s.2.2.1
    · rw [(rov_eq oi.s s1 hme.1.2.1 p1.2.1).mpr g1]
      refine e_Mo_move_187 (fun _ => ?_) (fun c1 => absurd rfl c1)
      exact mv (Or.inl g1)
    · refine e_Mo_move_187 (fun c1 => absurd ((rov_eq oi.s s1 hme.1.2.1 p1.2.1).mp c1) g1) (fun _ => ?_)
      refine e_Mo_move_190 rfl ?_
      refine e_Mo_move_191 rfl ?_
      refine e_Mo_move_193  ?_
      refine e_Mo_move_195 hm.1 (by decide) (c_Mo_isBelow hm (a := 80 + i) (b := 120) (by omega) (by decide) hme.1 p1 oi.s s1) (kp ?_) xn
      by_cases g2 : bw (gt s x)[i].1 s.2.2.1
      · rw [if_pos g2]
        refine e_Mo_move_198 (fun _ => ?_) (fun c1 => absurd c1 (by decide))
        exact mv (Or.inr g2)
      · rw [if_neg g2]
        refine e_Mo_move_198 (fun c1 => absurd rfl c1) (fun _ => ?_)
        rw [if_neg (show ¬ mvd s.2.2.1 (gt s x)[i] from by rintro (q | q); exact g1 q; exact g2 q)] at ih
        refine e_Mo_move_201  ?_
        refine e_Mo_move_356 rfl ?_
        refine e_Mo_move_359  ?_
        exact ih hc M' _ _ _ hm hf hkm t2 p1 p2 tt
theorem c_Mo_move {a_ b_ d_ : Int32} (hs : msr h th s) (ok : okX s) : tv_Ct G mm_Mo_move [.ref 497, .int x, .int a_, .int b_, .int d_] h 0 0 (rn (fun h' => msr h' (nI (mmov s x a_ b_ d_).1) (mmov s x a_ b_ d_).2 ∧ fr mS h h')) := by
  obtain ⟨M, hm, hss⟩ := hs
  have ht2 := tn_lt x
  unfold mmov
  have bad1 : ∀ hc M', ¬ (it x ∧ wf (w3 a_ b_ d_) = true) → mh hc th (nI (lyb s).length) M' → mss M' s → fr mS h hc → tv_Ev G mm_Mo_move 24 [some (.ref 497), some (.int x), some (.int a_), some (.int b_), some (.int d_), none, none, none, none, none, none, none] [] hc 0 0 (rn (fun h' => msr h' (nI (if it x ∧ wf (w3 a_ b_ d_) = true then (if csh (gt s x) s.2.2.1 (w3 a_ b_ d_) then (0, st s x (sft s.2.2.1 (w3 a_ b_ d_) (gt s x))) else (2, s)) else (1, s)).1) (if it x ∧ wf (w3 a_ b_ d_) = true then (if csh (gt s x) s.2.2.1 (w3 a_ b_ d_) then (0, st s x (sft s.2.2.1 (w3 a_ b_ d_) (gt s x))) else (2, s)) else (1, s)).2 ∧ fr mS h h')) := by
    intro hc M' hn hmc hsc hf
    rw [if_neg hn]
    refine e_Mo_move_24  ?_
    refine e_Mo_move_25 (Nat.le_of_ble_eq_true rfl) ?_
    refine e_Mo_move_27 rfl ?_
    refine e_Mo_move_29 (fun _ => ?_) (fun c1 => absurd rfl c1)
    refine e_Mo_move_56  ?_
    refine e_Mo_move_57 (Nat.le_of_ble_eq_true rfl) ?_
    refine e_Mo_move_59 rfl ?_
    refine e_Mo_move_61 (fun _ => ?_) (fun c1 => absurd rfl c1)
    refine e_Mo_move_113  ?_
    refine e_Mo_move_114 (Nat.le_of_ble_eq_true rfl) ?_
    refine e_Mo_move_116 rfl ?_
    refine e_Mo_move_117 rfl ?_
    refine e_Mo_move_119 (fun c1 => absurd rfl c1) (fun _ => ?_)
    refine e_Mo_move_122  ?_
    refine e_Mo_move_123  ?_
    refine e_Mo_move_127 rfl ?_
    refine e_Mo_move_129  ?_
    refine e_Mo_move_130 hmc.1 (by decide) (c_Mo_fails hmc) (kv ?_) xn
    rintro h2 ⟨hm2, f2⟩
    refine e_Mo_move_133 (fun c1 => absurd c1 (by decide)) (fun _ => ?_)
    exact e_Mo_move_136 ⟨rfl, ⟨M', hm2, hsc⟩, hf.tr f2⟩
  refine tv_ct rfl (by decide +kernel) (by simp [Value.category]) (Nat.le_of_ble_eq_true rfl) ?_
  refine e_Mo_move_0 rfl ?_
  refine e_Mo_move_1 (by decide) c_Mo_isTree (kp ?_) xn
  by_cases hx : it x
  · rw [if_pos hx]
    refine e_Mo_move_4 (fun c1 => absurd c1 (by decide)) (fun _ => ?_)
    refine e_Mo_move_7 rfl ?_
    refine e_Mo_move_8  ?_
    refine e_Mo_move_10 rfl ?_
    refine e_Mo_move_11 rfl ?_
    refine e_Mo_move_12 rfl ?_
    refine e_Mo_move_14 hm.1 (by decide) (c_Mo_lay hm (r := 121) (by decide)) (kv ?_) xn
    rintro h2 ⟨⟨M2, hm2, p2, k2⟩, f2⟩
    have ku : km un uc M M2 := k2.mono (by rintro r rfl; exact ⟨by omega, by omega⟩) (fun _ q => q.elim)
    have s2 := hss.kept ku
    by_cases hw : wf (w3 a_ b_ d_) = true
    · have okt := ok.tree x
      have sp := ok.S.sm
      have sq := wf_sm hw
      have nq := wf_ne hw
      have htM := s2.tree x
      have hp := s2.2.2.1
      have hp2 := hp.2.1
      rw [if_pos hw, if_pos (⟨hx, hw⟩ : it x ∧ wf (w3 a_ b_ d_) = true)]
      have hRx : ∃ R, R = (if csh (gt s x) s.2.2.1 (w3 a_ b_ d_) then (0, st s x (sft s.2.2.1 (w3 a_ b_ d_) (gt s x))) else (2, s)) := ⟨_, rfl⟩
      obtain ⟨R, hR⟩ := hRx
      rw [← hR]
      refine e_Mo_move_17 (fun c1 => absurd c1 (by decide)) (fun _ => ?_)
      refine e_Mo_move_20  ?_
      refine e_Mo_move_21  ?_
      refine e_Mo_move_25 (Nat.le_of_ble_eq_true rfl) ?_
      refine e_Mo_move_27 rfl ?_
      refine e_Mo_move_29 (fun c1 => absurd c1 (by decide)) (fun _ => ?_)
      -- it is refused
      have bad : ∀ hc M' (v6 : Int32), ¬ csh (gt s x) s.2.2.1 (w3 a_ b_ d_) → mh hc th (nI (lyb s).length) M' → mss M' s → fr mS h hc → tv_Ev G mm_Mo_move 109 [some (.ref 497), some (.int x), some (.int a_), some (.int b_), some (.int d_), some (.int 1), some (.int v6), none, none, none, none, none] [] hc 0 0 (rn (fun h' => msr h' (nI R.1) R.2 ∧ fr mS h h')) := by
        intro hc M' v6 hn hmc hsc hf
        rw [if_neg hn] at hR
        rw [hR]
        refine e_Mo_move_109  ?_
        refine e_Mo_move_110  ?_
        refine e_Mo_move_114 (Nat.le_of_ble_eq_true rfl) ?_
        refine e_Mo_move_116 rfl ?_
        refine e_Mo_move_117 rfl ?_
        refine e_Mo_move_119 (fun _ => ?_) (fun c1 => absurd c1 (by decide))
        refine e_Mo_move_126  ?_
        refine e_Mo_move_127 rfl ?_
        refine e_Mo_move_129  ?_
        refine e_Mo_move_130 hmc.1 (by decide) (c_Mo_fails hmc) (kv ?_) xn
        rintro h3 ⟨hm3, f3⟩
        refine e_Mo_move_133 (fun c1 => absurd c1 (by decide)) (fun _ => ?_)
        exact e_Mo_move_136 ⟨rfl, ⟨M', hm3, hsc⟩, hf.tr f3⟩
      have none1 : fx (gt s x) s.2.2.1 = none → tv_Ev G mm_Mo_move 52 [some (.ref 497), some (.int x), some (.int a_), some (.int b_), some (.int d_), some (.int 1), none, none, none, none, none, none] [] h2 0 0 (rn (fun h' => msr h' (nI R.1) R.2 ∧ fr mS h h')) := by
        intro hn
        refine e_Mo_move_52  ?_
        refine e_Mo_move_53  ?_
        refine e_Mo_move_57 (Nat.le_of_ble_eq_true rfl) ?_
        refine e_Mo_move_59 rfl ?_
        refine e_Mo_move_61 (fun c1 => absurd c1 (by decide)) (fun _ => ?_)
        refine e_Mo_move_64 rfl ?_
        refine e_Mo_move_66 (fun _ => ?_) (fun c1 => absurd c1 (by decide))
        exact bad h2 M2 1 (fun q => q.1 hn) hm2 s2 f2
      refine e_Mo_move_32 rfl ?_
      refine e_Mo_move_33 hm2.1 rfl ?_
      refine e_Mo_move_36  ?_
      refine e_Mo_move_38 (120) hm2.a1 rfl (md (a := 1) (show 120 < 124 by omega)) mlen ?_
      rw [hp.1]
      refine e_Mo_move_39 (fun c1 => ?_) (fun c1 => ?_)
      · have c1 : s.2.2.1.length = 0 := (nI_eq (b := 0) (by omega) (by decide)).mp c1
        exact none1 (by rw [List.length_eq_zero_iff.mp c1]; exact fx_nil okt.1)
      have n1 : s.2.2.1 ≠ [] := by intro e; rw [e] at c1; exact c1 rfl
      refine e_Mo_move_42 rfl ?_
      refine e_Mo_move_43 rfl ?_
      refine e_Mo_move_44  ?_
      rw [tn_x hx]
      refine e_Mo_move_46 hm2.1 (by decide) (c_Mo_find hm2 (t := tn x) (r := 120) (by omega) (by decide) htM hp (oks okt.1) okt.2.1 sp) (kp ?_) xn
      rw [← tn_x hx]
      by_cases g1 : fx (gt s x) s.2.2.1 = none
      · rw [g1]
        refine e_Mo_move_49 (fun c2 => absurd c2 (show ¬ (0 : Int32) ≤ -1 by decide)) (fun _ => ?_)
        exact none1 g1
      have hge : 0 ≤ oxt (tn x) (fx (gt s x) s.2.2.1) := Int32.not_lt.mp (fun e => g1 ((oxt_neg (by omega) (fx_40 htM)).mp e))
      refine e_Mo_move_49 (fun _ => ?_) (fun c2 => absurd hge c2)
      refine e_Mo_move_56  ?_
      refine e_Mo_move_57 (Nat.le_of_ble_eq_true rfl) ?_
      refine e_Mo_move_59 rfl ?_
      refine e_Mo_move_61 (fun c2 => absurd c2 (by decide)) (fun _ => ?_)
      refine e_Mo_move_64 rfl ?_
      refine e_Mo_move_66 (fun c2 => absurd rfl c2) (fun _ => ?_)
      refine e_Mo_move_69 rfl ?_
      refine e_Mo_move_70 rfl ?_
      refine e_Mo_move_71  ?_
      rw [tn_x hx]
      refine e_Mo_move_73 hm2.1 (by decide) (c_Mo_find hm2 (t := tn x) (r := 121) (by omega) (by decide) htM p2 (oks okt.1) okt.2.1 sq) (kp ?_) xn
      rw [← tn_x hx]
      by_cases g2 : fx (gt s x) (w3 a_ b_ d_) = none
      · rw [g2]
        refine e_Mo_move_76 (fun c2 => absurd c2 (show ¬ (0 : Int32) ≤ -1 by decide)) (fun _ => ?_)
        refine e_Mo_move_79 rfl ?_
        refine e_Mo_move_80  ?_
        refine e_Mo_move_82  ?_
        refine e_Mo_move_84 hm2.1 (by decide) (c_Mo_isBelow hm2 (a := 121) (b := 120) (by decide) (by decide) p2 hp sq sp) (kp ?_) xn
        by_cases g3 : bw (w3 a_ b_ d_) s.2.2.1
        · rw [if_pos g3]
          refine e_Mo_move_87 (fun _ => ?_) (fun c2 => absurd c2 (by decide))
          exact bad h2 M2 0 (fun q => q.2.2.1 g3) hm2 s2 f2
        · rw [if_neg g3]
          refine e_Mo_move_87 (fun c2 => absurd rfl c2) (fun _ => ?_)
          refine e_Mo_move_90 rfl ?_
          refine e_Mo_move_91 rfl ?_
          refine e_Mo_move_92  ?_
          rw [tn_x hx]
          refine e_Mo_move_94 hm2.1 (by decide) (c_Mo_mayStand hm2 (t := tn x) (r := 121) (by omega) (by decide) htM p2 (oks okt.1) okt.2.1 sq) (kv ?_) xn
          rw [← tn_x hx]
          rintro h3 ⟨hm3, f3⟩
          have k3 : km (fun r => r = 123) no_ M2 (shM M2 121 (w3 a_ b_ d_)) := km.sh
          have s3 := s2.kept (k3.mono (by rintro r rfl; exact ⟨by omega, by omega⟩) (fun _ q => q.elim))
          have p3 := k3.p (by decide) p2
          by_cases g4 : hpl (gt s x) (w3 a_ b_ d_)
          · rw [if_pos g4]
            refine e_Mo_move_97 (fun c2 => absurd c2 (by decide)) (fun _ => ?_)
            refine e_Mo_move_100 rfl ?_
            refine e_Mo_move_101 rfl ?_
            rw [tn_x hx]
            refine e_Mo_move_102 hm3.1 (by decide) (c_Mo_longest (t := tn x) (by omega) hm3 (s3.tree x) okt.1 s3.2.2.1 p3 sp sq n1 nq) (kv ?_) xn
            rw [← tn_x hx]
            rintro h3' ⟨rfl, hd21⟩
            have hq20 := p3.2.1
            have hqn : nms (w3 a_ b_ d_) ≤ 21 := by
              rw [nms_c nq]
              have := List.count_le_length (l := w3 a_ b_ d_) (a := 47)
              omega
            refine e_Mo_move_105  ?_
            refine e_Mo_move_106 (fun c2 => ?_) (fun c2 => ?_)
            · have g5 := (nI_leI (b := 4) (by omega) (by decide)).mp c2
              have hcs : csh (gt s x) s.2.2.1 (w3 a_ b_ d_) := ⟨g1, g2, g3, g4, g5⟩
              rw [if_pos hcs] at hR
              rw [hR]
              refine e_Mo_move_113  ?_
              refine e_Mo_move_114 (Nat.le_of_ble_eq_true rfl) ?_
              refine e_Mo_move_116 rfl ?_
              refine e_Mo_move_117 rfl ?_
              refine e_Mo_move_119 (fun _ => ?_) (fun c1 => absurd c1 (by decide))
              refine e_Mo_move_126  ?_
              refine e_Mo_move_127 rfl ?_
              refine e_Mo_move_129  ?_
              refine e_Mo_move_130 hm3.1 (by decide) (c_Mo_fails hm3) (kv ?_) xn
              rintro h4 ⟨hm4, f4⟩
              refine e_Mo_move_133 (fun _ => ?_) (fun c1 => absurd rfl c1)
              refine e_Mo_move_137 rfl ?_
              refine e_Mo_move_138 hm4.1 rfl ?_
              refine e_Mo_move_141  ?_
              refine e_Mo_move_142  ?_
              refine e_Mo_move_143 (2) hm4.a2 rfl (ml (a := 2) (show 2 < 3 by omega)) mlen ?_
              have hm5 := hm4.s2 (i := 2) (v := 0)
              have k5 : km no_ uc (shM M2 121 (w3 a_ b_ d_)) (mu (shM M2 121 (w3 a_ b_ d_)) 2 2 0) := km.mu2
              have s5 := s3.kept (k5.mono (fun _ q => q.elim) (fun _ q => q))
              have p5 := k5.p (fun q => q) p3
              refine e_Mo_move_144 rfl ?_
              refine e_Mo_move_145 rfl ?_
              refine e_Mo_move_146  ?_
              rw [tn_x hx]
              refine e_Mo_move_147 hm5.1 (by decide) (c_Mo_become hm5 (a := tn x) (b := 2) (by omega) (by decide) (s5.tree x)) (kn ?_) xn
              rw [← tn_x hx]
              rintro h6 ⟨⟨M6, hm6, t6, k6⟩, f6⟩
              have s6 := s5.kept (k6.mono (by rintro r q; exact ⟨by omega, by omega⟩) (fun _ q => q))
              have p6 := k6.p (fun w => by have := w.2; omega) p5
              refine e_Mo_move_150 rfl ?_
              refine e_Mo_move_151 rfl ?_
              refine e_Mo_move_152  ?_
              refine e_Mo_move_154  ?_
              rw [tn_x hx]
              refine e_Mo_move_155 hm6.1 (by decide) (c_Mo_clear true hm6 (t := tn x) (r := 120) (by omega) (by decide) (s6.tree x) s6.2.2.1 (oks okt.1) sp) (kn ?_) xn
              rw [← tn_x hx]
              rintro h7 ⟨⟨M7, hm7, t7, k7⟩, f7⟩
              have kA : km (fun r => trs (tn x) r ∨ un r) (fun u => u = tn x ∨ u = 2) M M7 := ((((ku.mono (fun _ q => Or.inr q) (fun _ q => Or.inr q)).tr (k3.mono (by rintro r rfl; exact Or.inr ⟨by omega, by omega⟩) (fun _ q => q.elim))).tr (k5.mono (fun _ q => q.elim) (fun _ q => Or.inr q))).tr (k6.mono (by rintro r q; exact Or.inr ⟨by omega, by omega⟩) (fun _ q => Or.inr q))).tr (k7.mono (by rintro r (q | q); exact Or.inl q; exact Or.inr ⟨by omega, by omega⟩) (fun _ q => Or.inl q))
              refine e_Mo_move_158  ?_
              refine e_Mo_move_159 (Nat.le_of_ble_eq_true rfl) ?_
              exact l_Mo_move hx hss ok hw hcs (gt s x).length 0 (Nat.add_zero _) h7 M7 none none none hm7 (((((f2.tr f3).tr f4).tr (fr.set ⟨by omega, by omega⟩)).tr f6).tr f7) kA (k7.t (by omega) (fun i hi w => by omega) t6) (k7.p (by omega) s6.2.2.1) (k7.p (by omega) p6) t7
            · refine bad h3' _ 0 (fun q => c2 (nI_le (b := 4) q.2.2.2.2 (by decide))) hm3 s3 (f2.tr f3)
          · rw [if_neg g4]
            refine e_Mo_move_97 (fun _ => ?_) (fun c2 => absurd rfl c2)
            exact bad h3 _ 0 (fun q => g4 q.2.2.2.1) hm3 s3 (f2.tr f3)
      · have hge2 : 0 ≤ oxt (tn x) (fx (gt s x) (w3 a_ b_ d_)) := Int32.not_lt.mp (fun e => g2 ((oxt_neg (by omega) (fx_40 htM)).mp e))
        refine e_Mo_move_76 (fun _ => ?_) (fun c2 => absurd hge2 c2)
        exact bad h2 M2 0 (fun q => g2 q.2.1) hm2 s2 f2
    · rw [if_neg hw]
      refine e_Mo_move_17 (fun _ => ?_) (fun c1 => absurd rfl c1)
      exact bad1 h2 M2 (fun q => hw q.2) hm2 s2 f2
  · rw [if_neg hx]
    refine e_Mo_move_4 (fun _ => ?_) (fun c1 => absurd rfl c1)
    exact bad1 h M (fun q => hx q.1) hm hss fr.rf
end
