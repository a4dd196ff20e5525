/-! the reference: done, apply -/
section
variable {G : tv_G} {h h' : tv_H} {th us x y w : Int32} {M : mM} {c z r t a b : Nat} {p q : List Nat} {es es2 : List tE} {s : tT} {f g : tE} {bs cs : List Nat}
theorem pf_3 : pf es (p, nI 3, cs) = if fx es p = none then none else some (dr p true es) := by
  unfold pf
  rw [if_neg (show ¬ (p, nI 3, cs).2.1 = 1 from (by decide : ¬ (nI 3 : Int32) = 1)), if_neg (show ¬ (p, nI 3, cs).2.1 = 2 from (by decide : ¬ (nI 3 : Int32) = 2)), if_pos (show (p, nI 3, cs).2.1 = 3 from rfl)]
theorem pf_4 : pf es (p, nI 4, cs) = if kx es p = 1 then some (dr p false es) else none := by
  unfold pf
  rw [if_neg (show ¬ (p, nI 4, cs).2.1 = 1 from (by decide : ¬ (nI 4 : Int32) = 1)), if_neg (show ¬ (p, nI 4, cs).2.1 = 2 from (by decide : ¬ (nI 4 : Int32) = 2)), if_neg (show ¬ (p, nI 4, cs).2.1 = 3 from (by decide : ¬ (nI 4 : Int32) = 3)), if_pos (show (p, nI 4, cs).2.1 = 4 from rfl)]
theorem l_Mo_done {k at_ i : Nat} {es2 : List tE} (hi : i < es2.length) (h40 : es2.length ≤ 40) (hc16 : cs.length ≤ 16) (hat : at_ + cs.length ≤ 2480) (hp20 : p.length ≤ 20) : ∀ j n, j + n = cs.length → ∀ hc M', mh hc th us M' → fr mS h hc → km (fun r => r = 80 + i) no_ M M' → ly M [] → (∀ k c, cs[k]? = some c → M 6 (at_ + k) = nI c) → mp M' (80 + i) p → M' 3 (80 + i) = nI k → M' 4 (80 + i) = nI cs.length → (∀ m c, m < n → cs[m]? = some c → M' 5 (16 * (80 + i) + m) = nI c) → tv_Ev G mm_Mo_done 157 [some (.ref 497), some (.int (nI k)), some (.int (nI at_)), some (.int (nI cs.length)), some (.int (nI (80 + i))), some (.int (nI n))] [] hc c z (rv (.int 1) (fun h' => (∃ M', mh h' th us M' ∧ me M' (80 + i) (p, nI k, cs) ∧ km (fun r => r = 80 + i) no_ M M') ∧ fr mS h h')) := by
  intro j
  induction j with
  | zero =>
    intro n hn hc M' hm hf hkm _ hly hp h3 h4 h5
    have hn : n = cs.length := by omega
    subst hn
    refine e_Mo_done_157 rfl ?_
    refine e_Mo_done_159 rfl ?_
    refine e_Mo_done_160 (fun _ => ?_) (fun c1 => absurd (nI_le (Nat.le_refl _) (by omega)) c1)
    refine e_Mo_done_191  ?_
    exact e_Mo_done_192 (Or.inr rfl) ⟨rfl, ⟨M', hm, ⟨hp, h3, h4, hc16, fun m c hm => h5 m c (List.getElem?_eq_some_iff.mp hm).1 hm⟩, hkm⟩, hf⟩
  | succ j ih =>
    intro n hn hc M' hm hf hkm h0 hly hp h3 h4 h5
    have hcn : cs[n]? = some cs[n] := List.getElem?_eq_getElem (by omega)
    refine e_Mo_done_157 rfl ?_
    refine e_Mo_done_159 rfl ?_
    refine e_Mo_done_160 (fun c1 => absurd c1 (nI_ge (by omega) (by omega))) (fun _ => ?_)
    refine e_Mo_done_163 rfl ?_
    refine e_Mo_done_164 hm.1 rfl ?_
    refine e_Mo_done_167  ?_
    refine e_Mo_done_169 rfl ?_
    refine e_Mo_done_171  ?_
    refine e_Mo_done_172 rfl ?_
    refine e_Mo_done_174  ?_
    refine e_Mo_done_175 rfl ?_
    refine e_Mo_done_176 hm.1 rfl ?_
    refine e_Mo_done_179 rfl ?_
    refine e_Mo_done_180 rfl ?_
    refine e_Mo_done_182  ?_
    refine e_Mo_done_183 (at_ + n) hm.a6 (nI_add _ _) (md (a := 6) (show at_ + n < 2480 by omega)) mlen ?_
    refine e_Mo_done_184 (16 * (80 + i) + n) hm.a5 (ix16 _ _) (ml (a := 5) (show 16 * (80 + i) + n < 1920 by omega)) mlen ?_
    rw [(hkm.2.2 _).trans (hly n _ hcn)]
    have hm2 := hm.s5 (i := 16 * (80 + i) + n) (v := nI cs[n])
    have k2 : km (fun r => r = 80 + i) no_ M' (mu M' 5 (16 * (80 + i) + n) (nI cs[n])) := km.mu5 (by omega)
    refine e_Mo_done_185 rfl ?_
    refine e_Mo_done_188  ?_
    have := ih (n + 1) (by omega) _ _ hm2 (hf.tr (fr.set ⟨by omega, by omega⟩)) (hkm.tr k2) h0 hly (hp.k (mu_ne (by omega)) (fun _ _ => mu_ne (by omega))) ((mu_ne (by omega)).trans h3) ((mu_ne (by omega)).trans h4) (fun m c hm hc => ?_)
    · rw [nI_succ] at this
      exact this
    · by_cases e : m = n
      · subst e
        rw [hcn] at hc
        rw [mu_at, ← Option.some.inj hc]
      · rw [mu_ne (by omega)]
        exact h5 m c (by omega) hc
theorem e_Mo_done_t {k at_ i : Nat} {es2 : List tE} {u4 u5 : Option Value} (hm : mh h' th us M) (hf : fr mS h h') (hk4 : k ≤ 4) (ht : mt M 2 es2) (hi : i < es2.length) (hip : ∃ f, es2[i]? = some f ∧ f.1 = p) (hc16 : cs.length ≤ 16) (hat : at_ + cs.length ≤ 2480) (hly : ∀ k c, cs[k]? = some c → M 6 (at_ + k) = nI c) : tv_Ev G mm_Mo_done 136 [some (.ref 497), some (.int (nI k)), some (.int (nI at_)), some (.int (nI cs.length)), u4, u5] [.int (nI (80 + i))] h' c z (rv (.int 1) (fun h'' => (∃ M', mh h'' th us M' ∧ mt M' 2 (es2.set i (p, nI k, cs)) ∧ km (fun r => r = 80 + i) no_ M M') ∧ fr mS h h'')) := by
  have h40 := ht.2.1
  obtain ⟨f, hfi, hfp⟩ := hip
  have hme := ht.2.2 i f hfi
  have hme1 : mp M (80 + i) p := hfp ▸ hme.1
  have hp20 := hme1.2.1
  refine e_Mo_done_136 (Nat.le_of_ble_eq_true rfl) ?_
  refine e_Mo_done_138 rfl ?_
  refine e_Mo_done_139 hm.1 rfl ?_
  refine e_Mo_done_142 rfl ?_
  refine e_Mo_done_144 rfl ?_
  refine e_Mo_done_145 (80 + i) hm.a3 rfl (ml (a := 3) (show 80 + i < 120 by omega)) mlen ?_
  have hm2 := hm.s3 (i := 80 + i) (v := nI k)
  refine e_Mo_done_146 rfl ?_
  refine e_Mo_done_147 hm2.1 rfl ?_
  refine e_Mo_done_150 rfl ?_
  refine e_Mo_done_152 rfl ?_
  refine e_Mo_done_153 (80 + i) hm2.a4 rfl (ml (a := 4) (show 80 + i < 120 by omega)) mlen ?_
  have hm3 := hm2.s4 (i := 80 + i) (v := nI cs.length)
  have kk : km (fun r => r = 80 + i) no_ M (mu (mu M 3 (80 + i) (nI k)) 4 (80 + i) (nI cs.length)) := km.mu3.tr km.mu4
  refine e_Mo_done_154  ?_
  refine e_Mo_done_155 (Nat.le_of_ble_eq_true rfl) ?_
  refine ev_post ?_ (l_Mo_done (h := h) (M := M) (es2 := es2) hi h40 hc16 hat hp20 cs.length 0 rfl _ _ hm3 ((hf.tr (fr.set ⟨by omega, by omega⟩)).tr (fr.set ⟨by omega, by omega⟩)) kk (fun k c hk => by cases hk) hly (hme1.k (by rw [mu_ne (by omega), mu_ne (by omega)]) (fun _ _ => by rw [mu_ne (by omega), mu_ne (by omega)])) (by rw [mu_ne (by omega), mu_at]) mu_at (fun m c hm => by omega))
  rintro r h2 ⟨e, ⟨M', hm', e', k'⟩, f'⟩
  exact ⟨e, ⟨M', hm', ht.set hi k' e', k'⟩, f'⟩
theorem c_Mo_done {k at_ : Nat} (hk1 : 1 ≤ k) (hk4 : k ≤ 4) (hm : mh h th us M) (ht : mt M 2 es) (hp : mp M 121 p) (ss : sme es) (hs : srt es) (sp : sm p) (hc16 : cs.length ≤ 16) (hat : at_ + cs.length ≤ 2480) (hly : ∀ k c, cs[k]? = some c → M 6 (at_ + k) = nI c) : tv_Ct G mm_Mo_done [.ref 497, .int (nI k), .int (nI at_), .int (nI cs.length)] h 0 0 (rv (.int (if pf es (p, nI k, cs) = none then 0 else 1)) (fun h' => (∃ M' es', mh h' th us M' ∧ mt M' 2 es' ∧ (∀ es'', pf es (p, nI k, cs) = some es'' → es' = es'') ∧ km un uc M M') ∧ fr mS h h')) := by
  have h40 := ht.2.1
  have hp20 := hp.2.1
  have hfx := fx_40 ht (q := p)
  -- nothing is done
  have nope : ∀ hc M', mh hc th us M' → mt M' 2 es → km un uc M M' → fr mS h hc → pf es (p, nI k, cs) = none → ∀ r : Int32, r = 0 → (rv (.int (if pf es (p, nI k, cs) = none then 0 else 1)) (fun h' => (∃ M' es', mh h' th us M' ∧ mt M' 2 es' ∧ (∀ es'', pf es (p, nI k, cs) = some es'' → es' = es'') ∧ km un uc M M') ∧ fr mS h h')) (.inl (some (.int r))) hc := by
    rintro hc M' hm' ht' hk' hf' hpf r rfl
    exact ⟨by rw [if_pos hpf], ⟨M', es, hm', ht', (fun es'' e => by rw [hpf] at e; cases e), hk'⟩, hf'⟩
  refine tv_ct rfl (by decide +kernel) (by simp [Value.category]) (Nat.le_of_ble_eq_true rfl) ?_
  refine e_Mo_done_0 rfl ?_
  refine e_Mo_done_1  ?_
  refine e_Mo_done_2  ?_
  refine e_Mo_done_4 hm.1 (by decide) (c_Mo_find hm (t := 2) (r := 121) (by decide) (by decide) ht hp ss hs sp) (kp ?_) xn
  refine e_Mo_done_7 (Nat.le_of_ble_eq_true rfl) ?_
  refine e_Mo_done_9 rfl ?_
  refine e_Mo_done_10  ?_
  have k34 : k = 3 ∨ k = 4 → tv_Ev G mm_Mo_done 19 [some (.ref 497), some (.int (nI k)), some (.int (nI at_)), some (.int (nI cs.length)), some (.int (oxt 2 (fx es p))), none] [] h 0 0 (rv (.int (if pf es (p, nI k, cs) = none then 0 else 1)) (fun h' => (∃ M' es', mh h' th us M' ∧ mt M' 2 es' ∧ (∀ es'', pf es (p, nI k, cs) = some es'' → es' = es'') ∧ km un uc M M') ∧ fr mS h h')) := by
    intro hk
    have bad : pf es (p, nI k, cs) = none → tv_Ev G mm_Mo_done 44 [some (.ref 497), some (.int (nI k)), some (.int (nI at_)), some (.int (nI cs.length)), some (.int (oxt 2 (fx es p))), none] [] h 0 0 (rv (.int (if pf es (p, nI k, cs) = none then 0 else 1)) (fun h' => (∃ M' es', mh h' th us M' ∧ mt M' 2 es' ∧ (∀ es'', pf es (p, nI k, cs) = some es'' → es' = es'') ∧ km un uc M M') ∧ fr mS h h')) := by
      intro hpf
      refine e_Mo_done_44  ?_
      refine e_Mo_done_45 (Nat.le_of_ble_eq_true rfl) ?_
      refine e_Mo_done_47 rfl ?_
      refine e_Mo_done_49 (fun _ => ?_) (fun c1 => absurd rfl c1)
      refine e_Mo_done_69 rfl ?_
      exact e_Mo_done_71 (Or.inl rfl) (nope h M hm ht km.rf fr.rf hpf 0 rfl)
    have good : ∀ al : Bool, (al = true ↔ k = 3) → pf es (p, nI k, cs) = some (dr p al es) → tv_Ev G mm_Mo_done 40 [some (.ref 497), some (.int (nI k)), some (.int (nI at_)), some (.int (nI cs.length)), some (.int (oxt 2 (fx es p))), none] [] h 0 0 (rv (.int (if pf es (p, nI k, cs) = none then 0 else 1)) (fun h' => (∃ M' es', mh h' th us M' ∧ mt M' 2 es' ∧ (∀ es'', pf es (p, nI k, cs) = some es'' → es' = es'') ∧ km un uc M M') ∧ fr mS h h')) := by
      intro al hal hpf
      have tail : tv_Ev G mm_Mo_done 66 [some (.ref 497), some (.int (nI k)), some (.int (nI at_)), some (.int (nI cs.length)), some (.int (oxt 2 (fx es p))), some (.int 1)] [.int (if al = true then 1 else 0), .int 121, .int 2, .ref 497] h 0 0 (rv (.int (if pf es (p, nI k, cs) = none then 0 else 1)) (fun h' => (∃ M' es', mh h' th us M' ∧ mt M' 2 es' ∧ (∀ es'', pf es (p, nI k, cs) = some es'' → es' = es'') ∧ km un uc M M') ∧ fr mS h h')) := by
        refine e_Mo_done_66 hm.1 (by decide) (c_Mo_clear al hm (t := 2) (r := 121) (by decide) (by decide) ht hp ss sp) (kn ?_) xn
        rintro h2 ⟨⟨M2, hm2, t2, k2⟩, f2⟩
        refine e_Mo_done_69 rfl ?_
        refine e_Mo_done_71 (Or.inr rfl) ⟨by rw [hpf, if_neg (by intro e; cases e)], ⟨M2, _, hm2, t2, fun es'' e => ?_, k2.mono (by rintro r (q | q); exact ⟨by omega, by omega⟩; exact ⟨by omega, by omega⟩) (fun _ q => q)⟩, f2⟩
        rw [hpf] at e
        exact Option.some.inj e
      refine e_Mo_done_40  ?_
      refine e_Mo_done_41  ?_
      refine e_Mo_done_45 (Nat.le_of_ble_eq_true rfl) ?_
      refine e_Mo_done_47 rfl ?_
      refine e_Mo_done_49 (fun c1 => absurd c1 (by decide)) (fun _ => ?_)
      refine e_Mo_done_52 rfl ?_
      refine e_Mo_done_53  ?_
      refine e_Mo_done_54  ?_
      refine e_Mo_done_56 rfl ?_
      refine e_Mo_done_57  ?_
      by_cases h3 : k = 3
      · rw [if_pos (hal.mpr h3)] at tail
        refine e_Mo_done_58 (fun c1 => absurd (by rw [h3]; rfl) c1) (fun _ => ?_)
        refine e_Mo_done_61  ?_
        refine e_Mo_done_62  ?_
        exact tail
      · rw [if_neg (fun e => h3 (hal.mp e))] at tail
        refine e_Mo_done_58 (fun _ => ?_) (fun c1 => absurd ((nI_eq (b := 3) (by omega) (by decide)).mp c1) h3)
        refine e_Mo_done_65  ?_
        exact tail
    refine e_Mo_done_19 rfl ?_
    cases hq : fx es p with
    | none =>
      rw [hq] at bad
      refine e_Mo_done_21 (fun _ => ?_) (fun c1 => absurd (show (-1 : Int32) < 0 by decide) c1)
      refine bad ?_
      rcases hk with rfl | rfl
      · rw [pf_3, if_pos hq]
      · rw [pf_4, if_neg (show ¬ kx es p = 1 from by rw [kx_no hq]; decide)]
    | some i =>
      have hi40 := hfx i hq
      obtain ⟨f0, hfi, hf1⟩ := fx_lt hq
      rw [hq] at bad good
      rw [oxt_some] at bad good ⊢
      refine e_Mo_done_21 (fun c1 => absurd c1 (nI_pos (by omega))) (fun _ => ?_)
      refine e_Mo_done_24 rfl ?_
      refine e_Mo_done_25  ?_
      by_cases h3 : k = 3
      · refine e_Mo_done_26 (fun _ => ?_) (fun c1 => absurd (by rw [h3]; rfl) c1)
        refine good true ⟨fun _ => h3, fun _ => rfl⟩ ?_
        subst h3
        rw [pf_3, if_neg (show ¬ fx es p = none from by rw [hq]; intro e; cases e)]
      · have h4 : k = 4 := by omega
        subst h4
        refine e_Mo_done_26 (fun c1 => absurd c1 (by decide)) (fun _ => ?_)
        refine e_Mo_done_29 rfl ?_
        refine e_Mo_done_30 hm.1 rfl ?_
        refine e_Mo_done_33 rfl ?_
        refine e_Mo_done_35 (40 * 2 + i) hm.a3 rfl (md (a := 3) (show 40 * 2 + i < 120 by omega)) mlen ?_
        refine e_Mo_done_36  ?_
        rw [(ht.2.2 i f0 hfi).2.1]
        refine e_Mo_done_37 (fun c1 => ?_) (fun c1 => ?_)
        · refine bad ?_
          rw [pf_4, if_neg (show ¬ kx es p = 1 from by rw [kx_at hq hfi]; exact c1)]
        · refine good false ⟨fun e => absurd e (by decide), fun e => absurd e (by decide)⟩ ?_
          rw [pf_4, if_pos (show kx es p = 1 from by rw [kx_at hq hfi]; exact c1)]
  by_cases h4 : k = 4
  · refine e_Mo_done_11 (fun _ => ?_) (fun c1 => absurd (by rw [h4]; rfl) c1)
    exact k34 (Or.inr h4)
  refine e_Mo_done_11 (fun c1 => absurd ((nI_eq (b := 4) (by omega) (by decide)).mp c1) h4) (fun _ => ?_)
  refine e_Mo_done_14 rfl ?_
  refine e_Mo_done_15  ?_
  by_cases h3 : k = 3
  · refine e_Mo_done_16 (fun c1 => absurd (by rw [h3]; rfl) c1) (fun _ => ?_)
    exact k34 (Or.inl h3)
  refine e_Mo_done_16 (fun _ => ?_) (fun c1 => absurd ((nI_eq (b := 3) (by omega) (by decide)).mp c1) h3)
  clear k34
  -- a directory or a file comes
  have hpf : pf es (p, nI k, cs) = if hpl es p ∧ ¬ (fx es p = none ∧ es.length = 40) then some (if k = 2 then dr p false (pu es (p, nI k, cs)) else pu es (p, nI k, cs)) else none := by
    unfold pf
    rcases (show k = 1 ∨ k = 2 by omega) with rfl | rfl
    · rw [if_pos (show (p, nI 1, cs).2.1 = 1 from rfl), if_neg (show ¬ 1 = 2 by decide)]
    · rw [if_neg (show ¬ (p, nI 2, cs).2.1 = 1 from (by decide : ¬ (nI 2 : Int32) = 1)), if_pos (show (p, nI 2, cs).2.1 = 2 from rfl), if_pos rfl]
  refine e_Mo_done_72 rfl ?_
  refine e_Mo_done_73  ?_
  refine e_Mo_done_74  ?_
  refine e_Mo_done_76 hm.1 (by decide) (c_Mo_mayStand hm (t := 2) (r := 121) (by decide) (by decide) ht hp ss hs sp) (kv ?_) xn
  rintro h1 ⟨hm1, f1⟩
  have ks : km un uc M (shM M 121 p) := km.sh.mono (by rintro r rfl; exact ⟨by omega, by omega⟩) (fun _ q => q)
  have t1 := shM_t (r := 121) (p := p) ht (by decide)
  have p1 := shM_r (r := 121) (p := p) hp (show 121 ≠ 123 by decide)
  have no : ¬ (hpl es p ∧ ¬ (fx es p = none ∧ es.length = 40)) → tv_Ev G mm_Mo_done 98 [some (.ref 497), some (.int (nI k)), some (.int (nI at_)), some (.int (nI cs.length)), some (.int (oxt 2 (fx es p))), none] [] h1 0 0 (rv (.int (if pf es (p, nI k, cs) = none then 0 else 1)) (fun h' => (∃ M' es', mh h' th us M' ∧ mt M' 2 es' ∧ (∀ es'', pf es (p, nI k, cs) = some es'' → es' = es'') ∧ km un uc M M') ∧ fr mS h h')) := by
    intro hn
    refine e_Mo_done_98  ?_
    exact e_Mo_done_99 (Or.inl rfl) (nope h1 _ hm1 t1 ks f1 (by rw [hpf, if_neg hn]) 0 rfl)
  by_cases g1 : hpl es p
  · rw [if_pos g1]
    refine e_Mo_done_79 (fun c1 => absurd c1 (by decide)) (fun _ => ?_)
    have yes : ¬ (fx es p = none ∧ es.length = 40) → tv_Ev G mm_Mo_done 100 [some (.ref 497), some (.int (nI k)), some (.int (nI at_)), some (.int (nI cs.length)), some (.int (oxt 2 (fx es p))), none] [] h1 0 0 (rv (.int (if pf es (p, nI k, cs) = none then 0 else 1)) (fun h' => (∃ M' es', mh h' th us M' ∧ mt M' 2 es' ∧ (∀ es'', pf es (p, nI k, cs) = some es'' → es' = es'') ∧ km un uc M M') ∧ fr mS h h')) := by
      intro g2
      have hpf2 : pf es (p, nI k, cs) = some (if k = 2 then dr p false (pu es (p, nI k, cs)) else pu es (p, nI k, cs)) := by rw [hpf, if_pos (show hpl es p ∧ ¬ (fx es p = none ∧ es.length = 40) from ⟨g1, g2⟩)]
      rw [hpf2, if_neg (show ¬ (some (if k = 2 then dr p false (pu es (p, nI k, cs)) else pu es (p, nI k, cs)) : Option (List tE)) = none from by intro e; cases e)]
      -- the tree, all below the path gone or not
      have put_ : ∀ hc M' es1, mh hc th us M' → mt M' 2 es1 → mp M' 121 p → km un uc M M' → fr mS h hc → srt es1 → sme es1 → (fx es1 p = none ↔ fx es p = none) → es1.length ≤ es.length → pu es1 (p, nI k, cs) = (if k = 2 then dr p false (pu es (p, nI k, cs)) else pu es (p, nI k, cs)) → tv_Ev G mm_Mo_done 113 [some (.ref 497), some (.int (nI k)), some (.int (nI at_)), some (.int (nI cs.length)), some (.int (oxt 2 (fx es p))), none] [] hc 0 0 (rv (.int 1) (fun h' => (∃ M' es', mh h' th us M' ∧ mt M' 2 es' ∧ (∀ es'', some (if k = 2 then dr p false (pu es (p, nI k, cs)) else pu es (p, nI k, cs)) = some es'' → es' = es'') ∧ km un uc M M') ∧ fr mS h h')) := by
        intro hc M2 es1 hm2 t2 p2 k2 f2 hs2 ss2 hfx1 hl1 hpu
        have hly2 : ∀ k c, cs[k]? = some c → M2 6 (at_ + k) = nI c := fun k c hk => (k2.2.2 _).trans (hly k c hk)
        refine e_Mo_done_113 rfl ?_
        by_cases hq : fx es p = none
        · have hq1 := hfx1.mpr hq
          have hl40 : es1.length ≠ 40 := fun e => g2 ⟨hq, by omega⟩
          rw [pu_new hs2 (f := (p, nI k, cs)) hq1 hl40] at hpu
          rw [hq]
          refine e_Mo_done_115 (fun c1 => absurd c1 (show ¬ (0 : Int32) ≤ -1 by decide)) (fun _ => ?_)
          refine e_Mo_done_118 rfl ?_
          refine e_Mo_done_119  ?_
          refine e_Mo_done_120  ?_
          refine e_Mo_done_122 rfl ?_
          refine e_Mo_done_123 hm2.1 (by decide) (c_Mo_insert hm2 (t := 2) (r := 121) (by decide) (by decide) (by decide) t2 (by omega) p2 ss2 sp) (kv ?_) xn
          rintro h3 ⟨⟨M3, hm3, t3, k3⟩, f3⟩
          have hfl := fi_le es1 p
          refine e_Mo_done_126  ?_
          refine ev_post ?_ (e_Mo_done_t hm3 (f2.tr f3) hk4 t3 (i := fi es1 p) (by rw [iat_len hfl]; omega) ⟨_, by rw [iat_get hfl, if_neg (by omega), if_pos rfl], rfl⟩ hc16 hat (fun k c hk => (k3.2.2 _).trans (hly2 k c hk)))
          rintro r h4 ⟨e4, ⟨M4, hm4, t4, k4⟩, f4⟩
          refine ⟨e4, ⟨M4, _, hm4, t4, fun es'' e => ?_, (k2.tr (k3.mono (by rintro r q; exact ⟨by omega, by omega⟩) (fun _ q => q))).tr (k4.mono (by rintro r rfl; exact ⟨by omega, by omega⟩) (fun _ q => q.elim))⟩, f4⟩
          rw [iat_set hfl]
          exact hpu.trans (Option.some.inj e)
        · have hq1 : ¬ fx es1 p = none := fun e => hq (hfx1.mp e)
          cases hq2 : fx es1 p with
          | none => exact absurd hq2 hq1
          | some i =>
            have hi40 := fx_40 t2 i hq2
            obtain ⟨f0, hfi, hf1⟩ := fx_lt hq2
            have hil := (List.getElem?_eq_some_iff.mp hfi).1
            rw [pu_old (f := (p, nI k, cs)) hq2] at hpu
            have hge : 0 ≤ oxt 2 (fx es p) := Int32.not_lt.mp (fun e => hq ((oxt_neg (by omega) hfx).mp e))
            refine e_Mo_done_115 (fun _ => ?_) (fun c1 => absurd hge c1)
            refine e_Mo_done_129 rfl ?_
            refine e_Mo_done_130  ?_
            refine e_Mo_done_131  ?_
            refine e_Mo_done_133 hm2.1 (by decide) (c_Mo_find hm2 (t := 2) (r := 121) (by decide) (by decide) t2 p2 ss2 hs2 sp) (kp ?_) xn
            rw [hq2]
            refine ev_post ?_ (e_Mo_done_t hm2 f2 hk4 t2 (i := i) hil ⟨f0, hfi, hf1⟩ hc16 hat hly2)
            rintro r h4 ⟨e4, ⟨M4, hm4, t4, k4⟩, f4⟩
            exact ⟨e4, ⟨M4, _, hm4, t4, fun es'' e => hpu.trans (Option.some.inj e), k2.tr (k4.mono (by rintro r rfl; exact ⟨by omega, by omega⟩) (fun _ q => q.elim))⟩, f4⟩
      refine e_Mo_done_100 rfl ?_
      refine e_Mo_done_101  ?_
      by_cases h2 : k = 2
      · refine e_Mo_done_102 (fun c1 => absurd (by rw [h2]; rfl) c1) (fun _ => ?_)
        refine e_Mo_done_105 rfl ?_
        refine e_Mo_done_106  ?_
        refine e_Mo_done_107  ?_
        refine e_Mo_done_109  ?_
        refine e_Mo_done_110 hm1.1 (by decide) (c_Mo_clear false hm1 (t := 2) (r := 121) (by decide) (by decide) t1 p1 ss sp) (kn ?_) xn
        rintro h3 ⟨⟨M3, hm3, t3, k3⟩, f3⟩
        exact put_ h3 M3 _ hm3 t3 (k3.p (by omega) p1) (ks.tr (k3.mono (by rintro r (q | q); exact ⟨by omega, by omega⟩; exact ⟨by omega, by omega⟩) (fun _ q => q))) (f1.tr f3) (dr_srt hs) (dr_sme ss) (fx_dr hs) dr_len (by rw [if_pos h2]; exact pu_dr (f := (p, nI k, cs)) hs h40 g2)
      · refine e_Mo_done_102 (fun _ => ?_) (fun c1 => absurd ((nI_eq (b := 2) (by omega) (by decide)).mp c1) h2)
        exact put_ h1 _ es hm1 t1 p1 ks f1 hs ss Iff.rfl (Nat.le_refl _) (by rw [if_neg h2])
    refine e_Mo_done_82 rfl ?_
    by_cases hq : fx es p = none
    · rw [hq] at yes no ⊢
      refine e_Mo_done_84 (fun c1 => absurd c1 (show ¬ (0 : Int32) ≤ -1 by decide)) (fun _ => ?_)
      refine e_Mo_done_87 rfl ?_
      refine e_Mo_done_88 hm1.1 rfl ?_
      refine e_Mo_done_91  ?_
      refine e_Mo_done_92 (2) hm1.a2 rfl (md (a := 2) (show 2 < 3 by omega)) mlen ?_
      rw [t1.1]
      refine e_Mo_done_93  ?_
      refine e_Mo_done_95 (fun c1 => ?_) (fun c1 => ?_)
      · exact yes (fun e => c1 (by rw [e.2]; rfl))
      · exact no (fun e => e.2 ⟨rfl, (nI_eq (b := 40) (by omega) (by decide)).mp c1⟩)
    · have hge : 0 ≤ oxt 2 (fx es p) := Int32.not_lt.mp (fun e => hq ((oxt_neg (by omega) hfx).mp e))
      refine e_Mo_done_84 (fun _ => ?_) (fun c1 => absurd hge c1)
      exact yes (fun e => hq e.1)
  · rw [if_neg g1]
    refine e_Mo_done_79 (fun _ => ?_) (fun c1 => absurd rfl c1)
    exact no (fun e => g1 e.1)
theorem l_Mo_apply1 {kk v : Int32} {at_ : Nat} {Q : tv_R → tv_H → Prop} (hp20 : p.length ≤ 20) (hat : at_ + 2 + p.length ≤ 2480) (hly : ∀ k c, p[k]? = some c → M 6 (at_ + 2 + k) = nI c) (hk : ∀ hc M', mh hc th us M' → fr mS h hc → km (fun r => r = 121) no_ M M' → mp M' 121 p → tv_Ev G mm_Mo_apply 117 [some (.ref 497), some (.int x), some (.int v), some (.int 1), some (.int (nI at_)), some (.int kk), some (.int (nI p.length))] [] hc c z Q) : ∀ j n, j + n = p.length → ∀ hc M', mh hc th us M' → fr mS h hc → km (fun r => r = 121) no_ M M' → M' 1 121 = nI p.length → (∀ k c, k < n → p[k]? = some c → M' 0 (20 * 121 + k) = nI c) → tv_Ev G mm_Mo_apply 76 [some (.ref 497), some (.int x), some (.int v), some (.int 1), some (.int (nI at_)), some (.int kk), some (.int (nI n))] [] hc c z Q := by
  intro j
  induction j with
  | zero =>
    intro n hn hc M' hm hf hkm h1 h0
    have hn : n = p.length := by omega
    subst hn
    refine e_Mo_apply_76 rfl ?_
    refine e_Mo_apply_78 rfl ?_
    refine e_Mo_apply_79 hm.1 rfl ?_
    refine e_Mo_apply_82  ?_
    refine e_Mo_apply_84 (121) hm.a1 rfl (md (a := 1) (show 121 < 124 by omega)) mlen ?_
    rw [h1]
    refine e_Mo_apply_85 (fun _ => ?_) (fun c1 => absurd (nI_le (Nat.le_refl _) (by omega)) c1)
    exact hk hc M' hm hf hkm ⟨h1, hp20, fun k c hk => h0 k c (List.getElem?_eq_some_iff.mp hk).1 hk⟩
  | succ j ih =>
    intro n hn hc M' hm hf hkm h1 h0
    have hpn : p[n]? = some p[n] := List.getElem?_eq_getElem (by omega)
    refine e_Mo_apply_76 rfl ?_
    refine e_Mo_apply_78 rfl ?_
    refine e_Mo_apply_79 hm.1 rfl ?_
    refine e_Mo_apply_82  ?_
    refine e_Mo_apply_84 (121) hm.a1 rfl (md (a := 1) (show 121 < 124 by omega)) mlen ?_
    rw [h1]
    refine e_Mo_apply_85 (fun c1 => absurd c1 (nI_ge (by omega) (by omega))) (fun _ => ?_)
    refine e_Mo_apply_88 rfl ?_
    refine e_Mo_apply_89 hm.1 rfl ?_
    refine e_Mo_apply_92  ?_
    refine e_Mo_apply_95 rfl ?_
    refine e_Mo_apply_97  ?_
    refine e_Mo_apply_98 rfl ?_
    refine e_Mo_apply_99 hm.1 rfl ?_
    refine e_Mo_apply_102 rfl ?_
    refine e_Mo_apply_104  ?_
    refine e_Mo_apply_105  ?_
    refine e_Mo_apply_106 rfl ?_
    refine e_Mo_apply_108  ?_
    refine e_Mo_apply_109 (at_ + 2 + n) hm.a6 (by rw [nI_2, nI_add]) (md (a := 6) (show at_ + 2 + n < 2480 by omega)) mlen ?_
    refine e_Mo_apply_110 (20 * 121 + n) hm.a0 (nI_add 2420 n) (ml (a := 0) (show 20 * 121 + n < 2480 by omega)) mlen ?_
    rw [(hkm.2.2 _).trans (hly n _ hpn)]
    have hm2 := hm.s0 (i := 20 * 121 + n) (v := nI p[n])
    refine e_Mo_apply_111 rfl ?_
    refine e_Mo_apply_114  ?_
    have k2 : km (fun r => r = 121) no_ M' (mu M' 0 (20 * 121 + n) (nI p[n])) := km.mu0 (by omega)
    have := ih (n + 1) (by omega) _ _ hm2 (hf.tr (fr.set ⟨by omega, by omega⟩)) (hkm.tr k2) ((mu_ne (by omega)).trans h1) (fun k c hk hc => ?_)
    · rw [nI_succ] at this
      exact this
    · by_cases e : k = n
      · subst e
        rw [hpn] at hc
        rw [mu_at, ← Option.some.inj hc]
      · rw [mu_ne (by omega)]
        exact h0 k c (by omega) hc
theorem l_Mo_apply (ok : okX s) (hx : it x) (hss : mss M s) {R : Nat × tT} (hR : R = match apl s.2.2.2 (gt s x) with
  | none => (2, s)
  | some es => (0, st s x es)) : ∀ j i, j + i = s.2.2.2.length → ∀ hc M' es u5 u6, mh hc (nI 0) (nI (lyb s).length) M' → km un uc M M' → fr mS h hc → mt M' 2 es → sme es → srt es → apl s.2.2.2 (gt s x) = apl (s.2.2.2.drop i) es → tv_Ev G mm_Mo_apply 35 [some (.ref 497), some (.int x), some (.int 1), some (.int 1), some (.int (nI ((s.2.2.2.take i).flatMap itb).length)), u5, u6] [] hc c z (rn (fun h' => msr h' (nI R.1) R.2 ∧ fr mS h h')) := by
  have ht2 := tn_lt x
  have hlen := hss.2.2.2.2
  intro j
  induction j with
  | zero =>
    intro i hi hc M' es u5 u6 hm hk hf ht hsm hsr ha
    have hi : i = s.2.2.2.length := by omega
    subst hi
    rw [List.drop_length, apl] at ha
    rw [ha] at hR
    have hR : R = (0, st s x es) := hR
    rw [hR, List.take_length]
    refine e_Mo_apply_35 rfl ?_
    refine e_Mo_apply_37 rfl ?_
    refine e_Mo_apply_38 hm.1 rfl ?_
    refine e_Mo_apply_41 (fun _ => ?_) (fun c1 => absurd (nI_le (Nat.le_refl _) (by show (lyb s).length < _; omega)) c1)
    refine e_Mo_apply_165 rfl ?_
    refine e_Mo_apply_166 rfl ?_
    refine e_Mo_apply_167 (fun c1 => absurd c1 (by decide)) (fun _ => ?_)
    refine e_Mo_apply_170  ?_
    refine e_Mo_apply_171  ?_
    refine e_Mo_apply_175 hm.1 (Nat.le_of_ble_eq_true rfl) ?_
    refine e_Mo_apply_178 rfl ?_
    have hm2 := hm.obj (nI 0) (nI (lyb s).length)
    refine e_Mo_apply_179 (fun c1 => absurd c1 (by decide)) (fun _ => ?_)
    refine e_Mo_apply_182 rfl ?_
    refine e_Mo_apply_183  ?_
    refine e_Mo_apply_184 rfl ?_
    rw [show x = nI (tn x) from tn_x hx]
    refine e_Mo_apply_185 hm2.1 (by decide) (c_Mo_become hm2 (a := 2) (b := tn x) (by decide) (by omega) ht) (kn ?_) xn
    rw [← tn_x hx]
    rintro h3 ⟨⟨M3, hm3, t3, k3⟩, f3⟩
    refine e_Mo_apply_188 ⟨rfl, ⟨M3, ?_, hss.upd t3 ((hk.mono (fun _ q => Or.inr q) (fun _ q => Or.inr q)).tr (k3.mono (fun _ q => Or.inl q) (fun _ q => Or.inl q)))⟩, (hf.tr (fr.set ⟨by omega, by omega⟩)).tr f3⟩
    rw [lyb_st]
    exact hm3
  | succ j ih =>
    intro i hi hc M' es u5 u6 hm hk hf ht hsm hsr ha
    have hei : s.2.2.2[i]? = some s.2.2.2[i] := List.getElem?_eq_getElem (by omega)
    have oi := ok.2.2.2 _ (List.getElem_mem (show i < s.2.2.2.length by omega))
    have hmem : s.2.2.2[i] = s.2.2.2[i] := rfl
    generalize hX : s.2.2.2[i] = X at hei oi
    obtain ⟨xk, p, cs⟩ := X
    simp only [okI] at oi
    obtain ⟨o1, o2, o3, o4, o5⟩ := oi
    rw [drop_g hei, apl] at ha
    have hdr : (lyb s).drop ((s.2.2.2.take i).flatMap itb).length = itb (xk, p, cs) ++ (s.2.2.2.drop (i + 1)).flatMap itb := by
      have h1 : lyb s = (s.2.2.2.take i).flatMap itb ++ (itb (xk, p, cs) ++ (s.2.2.2.drop (i + 1)).flatMap itb) := by
        rw [← List.flatMap_cons, ← drop_g hei, ← List.flatMap_append, List.take_append_drop]
      rw [h1, List.drop_left]
    have htk : ((s.2.2.2.take (i + 1)).flatMap itb).length = ((s.2.2.2.take i).flatMap itb).length + (4 + p.length + cs.length) := by
      rw [take_g hei, List.flatMap_append, List.length_append, itb_one, itb_len]
    generalize hat : ((s.2.2.2.take i).flatMap itb).length = at_ at hdr htk
    have hlb : at_ + (4 + p.length + cs.length) ≤ (lyb s).length := by
      have := congrArg List.length hdr
      rw [List.length_drop, List.length_append, itb_len] at this
      simp only at this
      omega
    have e1 : itb (xk, p, cs) ++ (s.2.2.2.drop (i + 1)).flatMap itb = xk :: p.length :: (p ++ (cs.length :: 0 :: (cs ++ (s.2.2.2.drop (i + 1)).flatMap itb))) := by unfold itb; simp
    have hly6 : ∀ k c, (lyb s)[k]? = some c → M' 6 k = nI c := fun k c hc => (hk.2.2 k).trans (hss.2.2.2.1 k c hc)
    have at0 : ∀ m, (lyb s)[at_ + m]? = (xk :: p.length :: (p ++ (cs.length :: 0 :: (cs ++ (s.2.2.2.drop (i + 1)).flatMap itb))))[m]? := fun m => by rw [← e1, ← hdr, List.getElem?_drop]
    have a0 : M' 6 at_ = nI xk := hly6 at_ xk (at0 0)
    have a1 : M' 6 (at_ + 1) = nI p.length := hly6 (at_ + 1) _ (at0 1)
    have at2 : ∀ m, (lyb s)[at_ + 2 + m]? = (p ++ (cs.length :: 0 :: (cs ++ (s.2.2.2.drop (i + 1)).flatMap itb)))[m]? := by
      intro m
      rw [show at_ + 2 + m = at_ + (m + 1 + 1) by omega, at0, List.getElem?_cons_succ, List.getElem?_cons_succ]
    have at3 : ∀ m, (lyb s)[at_ + (2 + p.length) + m]? = (cs.length :: 0 :: (cs ++ (s.2.2.2.drop (i + 1)).flatMap itb))[m]? := by
      intro m
      rw [show at_ + (2 + p.length) + m = at_ + 2 + (p.length + m) by omega, at2, List.getElem?_append_right (by omega), Nat.add_sub_cancel_left]
    have a2 : M' 6 (at_ + (2 + p.length)) = nI cs.length := hly6 _ _ (at3 0)
    have bp : ∀ m c, p[m]? = some c → M' 6 (at_ + 2 + m) = nI c := fun m c hm => hly6 _ _ (by rw [at2, List.getElem?_append_left (List.getElem?_eq_some_iff.mp hm).1]; exact hm)
    have bd : ∀ m c, cs[m]? = some c → M' 6 (at_ + (2 + p.length) + 2 + m) = nI c := fun m c hm => hly6 _ _ (by
      rw [show at_ + (2 + p.length) + 2 + m = at_ + (2 + p.length) + (m + 1 + 1) by omega, at3, List.getElem?_cons_succ, List.getElem?_cons_succ, List.getElem?_append_left (List.getElem?_eq_some_iff.mp hm).1]
      exact hm)
    have ih := ih (i + 1) (by omega)
    rw [htk] at ih
    refine e_Mo_apply_35 rfl ?_
    refine e_Mo_apply_37 rfl ?_
    refine e_Mo_apply_38 hm.1 rfl ?_
    refine e_Mo_apply_41 (fun c1 => absurd c1 (nI_ge (by omega) (by omega))) (fun _ => ?_)
    refine e_Mo_apply_44 rfl ?_
    refine e_Mo_apply_45 (fun c1 => absurd c1 (by decide)) (fun _ => ?_)
    refine e_Mo_apply_48 rfl ?_
    refine e_Mo_apply_49 hm.1 rfl ?_
    refine e_Mo_apply_52 rfl ?_
    refine e_Mo_apply_54 (at_) hm.a6 rfl (md (a := 6) (show at_ < 2480 by omega)) mlen ?_
    refine e_Mo_apply_55 (Nat.le_of_ble_eq_true rfl) ?_
    refine e_Mo_apply_57 rfl ?_
    refine e_Mo_apply_58 hm.1 rfl ?_
    refine e_Mo_apply_61  ?_
    rw [a0]
    refine e_Mo_apply_63 rfl ?_
    refine e_Mo_apply_64 hm.1 rfl ?_
    refine e_Mo_apply_67 rfl ?_
    refine e_Mo_apply_69  ?_
    refine e_Mo_apply_70  ?_
    refine e_Mo_apply_71 (at_ + 1) hm.a6 (nI_1 _) (md (a := 6) (show at_ + 1 < 2480 by omega)) mlen ?_
    refine e_Mo_apply_72 (121) hm.a1 rfl (ml (a := 1) (show 121 < 124 by omega)) mlen ?_
    rw [a1]
    have hm2 := hm.s1 (i := 121) (v := nI p.length)
    have k2 : km (fun r => r = 121) no_ M' (mu M' 1 121 (nI p.length)) := km.mu1
    have un121 : ∀ {A B : mM}, km (fun r => r = 121) no_ A B → km un uc A B := fun q => q.mono (by rintro r rfl; exact ⟨by omega, by omega⟩) (fun _ q => q.elim)
    refine e_Mo_apply_73  ?_
    refine e_Mo_apply_74 (Nat.le_of_ble_eq_true rfl) ?_
    refine l_Mo_apply1 (M := mu M' 1 121 (nI p.length)) (h := h) (by omega) (by omega) (fun k c hk => (mu_ne (by omega)).trans (bp k c hk)) (fun h3 M3 hm3 f3 k3 p3 => ?_) p.length 0 (Nat.add_zero _) _ _ hm2 (hf.tr (fr.set ⟨by omega, by omega⟩)) km.rf mu_at (fun k c hk => by omega)
    have k23 := k2.tr k3
    refine e_Mo_apply_117 rfl ?_
    refine e_Mo_apply_119  ?_
    refine e_Mo_apply_120 rfl ?_
    refine e_Mo_apply_121 hm3.1 rfl ?_
    refine e_Mo_apply_124  ?_
    refine e_Mo_apply_126 (121) hm3.a1 rfl (md (a := 1) (show 121 < 124 by omega)) mlen ?_
    rw [p3.1]
    refine e_Mo_apply_127  ?_
    refine e_Mo_apply_128  ?_
    rw [show (2 : Int32) + nI p.length = nI (2 + p.length) from nI_add 2 _, nI_add]
    refine e_Mo_apply_129 (Nat.le_of_ble_eq_true rfl) ?_
    refine e_Mo_apply_131 rfl ?_
    refine e_Mo_apply_132 hm3.1 rfl ?_
    refine e_Mo_apply_135 rfl ?_
    refine e_Mo_apply_137 (at_ + (2 + p.length)) hm3.a6 rfl (md (a := 6) (show at_ + (2 + p.length) < 2480 by omega)) mlen ?_
    rw [(k23.2.2 _).trans a2]
    refine e_Mo_apply_138 (Nat.le_of_ble_eq_true rfl) ?_
    refine e_Mo_apply_140 rfl ?_
    refine e_Mo_apply_141 rfl ?_
    refine e_Mo_apply_143 rfl ?_
    refine e_Mo_apply_145  ?_
    refine e_Mo_apply_146  ?_
    refine e_Mo_apply_147 rfl ?_
    rw [nI_2]
    refine e_Mo_apply_149 hm3.1 (by decide) (c_Mo_done o1 o2 hm3 (k23.t (u := 2) (fun q => q) (fun i hi => by omega) ht) p3 hsm hsr (wf_sm o3) o5 (by omega) (fun k c hk => (k23.2.2 _).trans (bd k c hk))) (kv ?_) xn
    rintro h4 ⟨⟨M4, es4, hm4, t4, u4, k4⟩, f4⟩
    have kk := (hk.tr (un121 k23)).tr k4
    have ff : fr mS h h4 := f3.tr f4
    refine e_Mo_apply_152 (Nat.le_of_ble_eq_true rfl) ?_
    refine e_Mo_apply_153 rfl ?_
    refine e_Mo_apply_155  ?_
    refine e_Mo_apply_156 rfl ?_
    refine e_Mo_apply_158  ?_
    refine e_Mo_apply_159  ?_
    rw [show (2 : Int32) + nI cs.length = nI (2 + cs.length) from nI_add 2 _, nI_add, show at_ + (2 + p.length) + (2 + cs.length) = at_ + (4 + p.length + cs.length) by omega]
    cases hpf : pf es (p, nI xk, cs) with
    | none =>
      rw [hpf] at ha
      have ha : apl s.2.2.2 (gt s x) = none := ha
      rw [ha] at hR
      have hR : R = (2, s) := hR
      rw [if_pos rfl, hR]
      have fin : tv_Ev G mm_Mo_apply 165 [some (.ref 497), some (.int x), some (.int 1), some (.int 0), some (.int (nI (at_ + (4 + p.length + cs.length)))), some (.int (nI xk)), some (.int (nI cs.length))] [] h4 c z (rn (fun h' => msr h' (nI 2) s ∧ fr mS h h')) := by
        refine e_Mo_apply_165 rfl ?_
        refine e_Mo_apply_166 rfl ?_
        refine e_Mo_apply_167 (fun _ => ?_) (fun c1 => absurd rfl c1)
        refine e_Mo_apply_174  ?_
        refine e_Mo_apply_175 hm4.1 (Nat.le_of_ble_eq_true rfl) ?_
        refine e_Mo_apply_178 rfl ?_
        have hm5 := hm4.obj (nI 2) (nI (lyb s).length)
        refine e_Mo_apply_179 (fun _ => ?_) (fun c1 => absurd rfl c1)
        exact e_Mo_apply_188 ⟨rfl, ⟨M4, hm5, hss.kept kk⟩, ff.tr (fr.set ⟨by omega, by omega⟩)⟩
      refine e_Mo_apply_160 (Nat.le_of_ble_eq_true rfl) ?_
      refine e_Mo_apply_162  ?_
      refine e_Mo_apply_35 rfl ?_
      refine e_Mo_apply_37 rfl ?_
      refine e_Mo_apply_38 hm4.1 rfl ?_
      refine e_Mo_apply_41 (fun _ => fin) (fun _ => ?_)
      refine e_Mo_apply_44 rfl ?_
      refine e_Mo_apply_45 (fun _ => fin) (fun c1 => absurd rfl c1)
    | some es5 =>
      rw [hpf] at ha
      have ha : apl s.2.2.2 (gt s x) = apl (s.2.2.2.drop (i + 1)) es5 := ha
      have u4 := u4 _ hpf
      subst u4
      rw [if_neg (show ¬ (some es4 : Option (List tE)) = none from by intro e; cases e)]
      refine e_Mo_apply_160 (Nat.le_of_ble_eq_true rfl) ?_
      refine e_Mo_apply_162  ?_
      exact ih h4 M4 es4 _ _ hm4 kk ff t4 (pf_sme hsm (wf_sm o3) hpf) (pf_srt hsr hpf) ha
theorem c_Mo_apply (hs : msr h th s) (ok : okX s) : tv_Ct G mm_Mo_apply [.ref 497, .int x] h 0 0 (rn (fun h' => msr h' (nI (mapp s x).1) (mapp s x).2 ∧ fr mS h h')) := by
  obtain ⟨M, hm, hss⟩ := hs
  have ht2 := tn_lt x
  by_cases hx : it x
  · have hR : mapp s x = match apl s.2.2.2 (gt s x) with
      | none => (2, s)
      | some es => (0, st s x es) := by unfold mapp; rw [if_pos hx]; cases apl s.2.2.2 (gt s x) <;> rfl
    have okt := ok.tree x
    refine tv_ct rfl (by decide +kernel) (by simp [Value.category]) (Nat.le_of_ble_eq_true rfl) ?_
    refine e_Mo_apply_0 rfl ?_
    refine e_Mo_apply_1 (by decide) c_Mo_isTree (kp ?_) xn
    rw [if_pos hx]
    refine e_Mo_apply_4 (Nat.le_of_ble_eq_true rfl) ?_
    refine e_Mo_apply_5 rfl ?_
    refine e_Mo_apply_6 rfl ?_
    refine e_Mo_apply_7 (fun _ => ?_) (fun c1 => absurd c1 (by decide))
    refine e_Mo_apply_14  ?_
    refine e_Mo_apply_15  ?_
    refine e_Mo_apply_16  ?_
    refine e_Mo_apply_17 hm.1 (by decide) (c_Mo_fails hm) (kv ?_) xn
    rintro h2 ⟨hm2, f2⟩
    refine e_Mo_apply_20 (fun _ => ?_) (fun c1 => absurd rfl c1)
    refine e_Mo_apply_24 rfl ?_
    refine e_Mo_apply_25 rfl ?_
    refine e_Mo_apply_26  ?_
    rw [show x = nI (tn x) from tn_x hx]
    refine e_Mo_apply_27 hm2.1 (by decide) (c_Mo_become hm2 (a := tn x) (b := 2) (by omega) (by decide) (hss.tree x)) (kn ?_) xn
    rw [← tn_x hx]
    rintro h3 ⟨⟨M3, hm3, t3, k3⟩, f3⟩
    refine e_Mo_apply_30  ?_
    refine e_Mo_apply_31 (Nat.le_of_ble_eq_true rfl) ?_
    refine e_Mo_apply_32  ?_
    refine e_Mo_apply_33 (Nat.le_of_ble_eq_true rfl) ?_
    exact l_Mo_apply ok hx hss hR s.2.2.2.length 0 (Nat.add_zero _) h3 M3 _ none none hm3 (k3.mono (by rintro r q; exact ⟨by omega, by omega⟩) (fun _ q => q)) (f2.tr f3) t3 (oks okt.1) okt.2.1 rfl
  · unfold mapp
    rw [if_neg hx]
    refine tv_ct rfl (by decide +kernel) (by simp [Value.category]) (Nat.le_of_ble_eq_true rfl) ?_
    refine e_Mo_apply_0 rfl ?_
    refine e_Mo_apply_1 (by decide) c_Mo_isTree (kp ?_) xn
    rw [if_neg hx]
    refine e_Mo_apply_4 (Nat.le_of_ble_eq_true rfl) ?_
    refine e_Mo_apply_5 rfl ?_
    refine e_Mo_apply_6 rfl ?_
    refine e_Mo_apply_7 (fun c1 => absurd rfl c1) (fun _ => ?_)
    refine e_Mo_apply_10  ?_
    refine e_Mo_apply_11  ?_
    refine e_Mo_apply_15  ?_
    refine e_Mo_apply_16  ?_
    refine e_Mo_apply_17 hm.1 (by decide) (c_Mo_fails hm) (kv ?_) xn
    rintro h2 ⟨hm2, f2⟩
    refine e_Mo_apply_20 (fun c1 => absurd c1 (by decide)) (fun _ => ?_)
    exact e_Mo_apply_23 ⟨rfl, ⟨M, hm2, hss⟩, f2⟩
end
