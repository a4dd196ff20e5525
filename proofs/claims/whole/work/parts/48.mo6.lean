/-! the reference: file, add, same, entries, entry, layer -/
section
variable {G : tv_G} {h h' : tv_H} {th us x y w : Int32} {M : mM} {c z r t a b : Nat} {p q : List Nat} {es : List tE} {s : tT} {f g : tE}
theorem nI_pos_iff {n : Nat} (hn : n < 2 ^ 31) : nI n ≤ 0 ↔ n = 0 := by
  constructor
  · intro e
    have := (nI_leI (b := 0) hn (by decide)).mp e
    omega
  · rintro rfl; decide
theorem me.sz0 (hm : me M r f) : me (mu M 4 r 0) r (f.1, f.2.1, []) := ⟨hm.1.k (mu_ne (by omega)) (fun k _ => mu_ne (by omega)), (mu_ne (by omega)).trans hm.2.1, mu_at, Nat.zero_le _, fun k c hk => by cases hk⟩
theorem oxt_some {t i : Nat} : oxt t (some i) = nI (40 * t + i) := rfl
theorem c_Mo_file (hs : msr h th s) (ok : okX s) : tv_Ct G mm_Mo_file [.ref 497, .int x, .int w] h 0 0 (rn (fun h' => msr h' (nI (mfil s x w).1) (mfil s x w).2 ∧ fr mS h h')) := by
  obtain ⟨M, hm, hss⟩ := hs
  unfold mfil
  by_cases hx : it x
  · rw [if_pos hx]
    have okt := ok.tree x
    have sp := ok.S.sm
    have ht2 := tn_lt x
    have hwl := wbk_len w 4
    have hRx : ∃ R, R = (if s.2.2.1 = [] ∨ ¬ hpl (gt s x) s.2.2.1 ∨ kx (gt s x) s.2.2.1 = 1 then (2, s) else if fx (gt s x) s.2.2.1 = none ∧ (gt s x).length = 40 then (3, s) else (0, st s x (pu (gt s x) (s.2.2.1, 2, wbk w 4)))) := ⟨_, rfl⟩
    obtain ⟨R, hR⟩ := hRx
    rw [← hR]
    have htM := hss.tree x
    have h40 := fx_40 htM (q := s.2.2.1)
    -- the new bytes of the row 40 t + i
    have put_ : ∀ hc M' i es2, mh hc (nI 0) (nI (lyb s).length) M' → fr mS h hc → mt M' (tn x) es2 → i < es2.length → (∃ f, es2[i]? = some f ∧ f.1 = s.2.2.1 ∧ f.2.1 = 2) → R = (0, st s x (es2.set i (s.2.2.1, 2, wbk w 4))) → km (fun r => trs (tn x) r ∨ un r) (fun u => u = tn x ∨ u = 2) M M' → tv_Ev G mm_Mo_file 131 [some (.ref 497), some (.int x), some (.int w), some (.int 1), some (.int (oxt (tn x) (fx (gt s x) s.2.2.1))), some (.int 0)] [.int (nI (40 * tn x + i))] hc 0 0 (rn (fun h' => msr h' (nI R.1) R.2 ∧ fr mS h h')) := by
      rintro hc M' i es2 hmc hf ht2' hi ⟨f, hfi, hf1, hf2⟩ hR2 hk
      have hl2 := ht2'.2.1
      rw [hR2]
      refine e_Mo_file_131 (Nat.le_of_ble_eq_true rfl) ?_
      refine e_Mo_file_133 rfl ?_
      refine e_Mo_file_134 hmc.1 rfl ?_
      refine e_Mo_file_137 rfl ?_
      refine e_Mo_file_139  ?_
      refine e_Mo_file_140 (40 * tn x + i) hmc.a4 rfl (ml (a := 4) (show 40 * tn x + i < 120 by omega)) mlen ?_
      have hm2 := hmc.s4 (i := 40 * tn x + i) (v := 0)
      have e2 := (ht2'.2.2 i f hfi).sz0
      rw [hf1, hf2] at e2
      refine e_Mo_file_141 rfl ?_
      refine e_Mo_file_142 rfl ?_
      refine e_Mo_file_144 rfl ?_
      refine e_Mo_file_145 hm2.1 (by decide) (c_Mo_append hm2 (r := 40 * tn x + i) (by omega) (by simp; omega) e2) (kn ?_) xn
      rintro h3 ⟨⟨M3, hm3, e3, k3⟩, f3⟩
      rw [List.nil_append] at e3
      have kk : km (fun r => r = 40 * tn x + i) no_ M' M3 := km.mu4.tr k3
      have t3 := ht2'.set hi kk e3
      refine e_Mo_file_148 ⟨rfl, ⟨M3, ?_, hss.upd t3 (hk.tr (kk.mono (by rintro r rfl; exact Or.inl ⟨by omega, by omega⟩) (fun _ q => q.elim)))⟩, (hf.tr (fr.set ⟨by omega, by omega⟩)).tr f3⟩
      rw [lyb_st]
      exact hm3
    have tail : ∀ hc M' (b : Int32), mh hc th (nI (lyb s).length) M' → fr mS h hc → mss M' s → km un uc M M' → (b = 0 ∨ b = 1) → (b = 1 ↔ (s.2.2.1 = [] ∨ ¬ hpl (gt s x) s.2.2.1 ∨ kx (gt s x) s.2.2.1 = 1)) → tv_Ev G mm_Mo_file 69 [some (.ref 497), some (.int x), some (.int w), some (.int 1), some (.int (oxt (tn x) (fx (gt s x) s.2.2.1))), some (.int b)] [] hc 0 0 (rn (fun h' => msr h' (nI R.1) R.2 ∧ fr mS h h')) := by
      intro hc M' b hmc hf hsc hkc hb hbi
      have htc := hsc.tree x
      have hl := htc.2.1
      have fin : ∀ d : Int32, (d = 0 ∨ d = 1) → (d = 1 ↔ (fx (gt s x) s.2.2.1 = none ∧ (gt s x).length = 40)) → tv_Ev G mm_Mo_file 106 [some (.ref 497), some (.int x), some (.int w), some (.int 1), some (.int (oxt (tn x) (fx (gt s x) s.2.2.1))), some (.int b)] [.int d, .int b, .int 0, .ref 497] hc 0 0 (rn (fun h' => msr h' (nI R.1) R.2 ∧ fr mS h h')) := by
        intro d hd hdi
        refine e_Mo_file_106 hmc.1 (by decide) (c_Mo_fails hmc) (kv ?_) xn
        rintro h2 ⟨hm2, f2⟩
        rcases hb with rfl | rfl
        · have nb : ¬ (s.2.2.1 = [] ∨ ¬ hpl (gt s x) s.2.2.1 ∨ kx (gt s x) s.2.2.1 = 1) := fun w => absurd (hbi.mpr w) (by decide)
          rw [if_neg nb] at hR
          rcases hd with rfl | rfl
          · have nd : ¬ (fx (gt s x) s.2.2.1 = none ∧ (gt s x).length = 40) := fun w => absurd (hdi.mpr w) (by decide)
            rw [if_neg nd] at hR
            refine e_Mo_file_109 (fun _ => ?_) (fun c1 => absurd rfl c1)
            refine e_Mo_file_113 rfl ?_
            cases hq : fx (gt s x) s.2.2.1 with
            | none =>
              have nl : (gt s x).length ≠ 40 := fun e => nd ⟨hq, e⟩
              rw [pu_new okt.2.1 (f := (s.2.2.1, 2, wbk w 4)) hq nl] at hR
              rw [hq] at put_
              refine e_Mo_file_115 (fun c1 => absurd c1 (show ¬ (0 : Int32) ≤ -1 by decide)) (fun _ => ?_)
              refine e_Mo_file_118 rfl ?_
              refine e_Mo_file_119 rfl ?_
              refine e_Mo_file_120  ?_
              refine e_Mo_file_122  ?_
              rw [tn_x hx]
              refine e_Mo_file_123 hm2.1 (by decide) (c_Mo_insert hm2 (t := tn x) (r := 120) (by omega) (by decide) (by decide) htc (by omega) hsc.2.2.1 (oks okt.1) sp) (kv ?_) xn
              rintro h3 ⟨⟨M3, hm3, t3, k3⟩, f3⟩
              rw [← tn_x hx]
              have hfl := fi_le (gt s x) s.2.2.1
              refine e_Mo_file_126  ?_
              refine put_ h3 M3 (fi (gt s x) s.2.2.1) _ hm3 ((hf.tr f2).tr f3) t3 (by rw [iat_len hfl]; omega) ⟨_, by rw [iat_get hfl, if_neg (by omega), if_pos rfl], rfl, rfl⟩ ?_ ((hkc.mono (fun _ q => Or.inr q) (fun _ q => Or.inr q)).tr (k3.mono (fun _ q => Or.inl q) (fun _ q => Or.inl q)))
              rw [iat_set hfl]
              exact hR
            | some i =>
              rw [pu_old (f := (s.2.2.1, 2, wbk w 4)) hq] at hR
              rw [hq] at put_
              obtain ⟨f, hfi, hf1⟩ := fx_lt hq
              have hil := (List.getElem?_eq_some_iff.mp hfi).1
              have hi40 := h40 i hq
              have hge : (0 : Int32) ≤ nI (40 * tn x + i) := nI_pos' (by omega)
              refine e_Mo_file_115 (fun _ => ?_) (fun c1 => absurd hge c1)
              refine e_Mo_file_129 rfl ?_
              refine put_ h2 M' i _ hm2 (hf.tr f2) htc hil ⟨f, hfi, hf1, ?_⟩ hR (hkc.mono (fun _ q => Or.inr q) (fun _ q => Or.inr q))
              rcases (okt.1 f (List.mem_of_getElem? hfi)).2.1 with ⟨w1, -⟩ | w1
              · exact absurd (Or.inr (Or.inr (by rw [kx_at hq hfi]; exact w1))) nb
              · exact w1
          · rw [if_pos (hdi.mp rfl)] at hR
            rw [hR]
            refine e_Mo_file_109 (fun c1 => absurd c1 (by decide)) (fun _ => ?_)
            exact e_Mo_file_112 ⟨rfl, ⟨M', hm2, hsc⟩, hf.tr f2⟩
        · rw [if_pos (hbi.mp rfl)] at hR
          rw [hR]
          refine e_Mo_file_109 (fun c1 => absurd c1 (by rcases hd with rfl | rfl <;> decide)) (fun _ => ?_)
          refine e_Mo_file_112 ⟨rfl, ⟨M', ?_, hsc⟩, hf.tr f2⟩
          rw [show fk 0 1 d = 2 from rfl] at hm2
          exact hm2
      refine e_Mo_file_69 rfl ?_
      refine e_Mo_file_70 rfl ?_
      refine e_Mo_file_71 (fun _ => ?_) (fun c1 => absurd c1 (by decide))
      refine e_Mo_file_78  ?_
      refine e_Mo_file_79 rfl ?_
      refine e_Mo_file_81 rfl ?_
      refine e_Mo_file_82 (fun c1 => absurd c1 (by decide)) (fun _ => ?_)
      refine e_Mo_file_85 rfl ?_
      by_cases g2 : fx (gt s x) s.2.2.1 = none
      · rw [g2] at fin ⊢
        refine e_Mo_file_87 (fun c1 => absurd c1 (show ¬ (0 : Int32) ≤ -1 by decide)) (fun _ => ?_)
        refine e_Mo_file_90 rfl ?_
        refine e_Mo_file_91 hmc.1 rfl ?_
        refine e_Mo_file_94 rfl ?_
        refine e_Mo_file_95 (tn x) hmc.a2 (tn_x hx) (md (a := 2) (show tn x < 3 by omega)) mlen ?_
        rw [htc.1]
        refine e_Mo_file_96  ?_
        refine e_Mo_file_98 (fun c1 => ?_) (fun c1 => ?_)
        · refine e_Mo_file_105  ?_
          exact fin 0 (Or.inl rfl) ⟨fun w => absurd w (by decide), fun w => absurd (by rw [w.2]; rfl) c1⟩
        · refine e_Mo_file_101  ?_
          refine e_Mo_file_102  ?_
          exact fin 1 (Or.inr rfl) ⟨fun _ => ⟨rfl, (nI_eq (b := 40) (by omega) (by decide)).mp c1⟩, fun _ => rfl⟩
      · have hge : 0 ≤ oxt (tn x) (fx (gt s x) s.2.2.1) := Int32.not_lt.mp (fun e => g2 ((oxt_neg (by omega) (fx_40 htc)).mp e))
        refine e_Mo_file_87 (fun _ => ?_) (fun c1 => absurd hge c1)
        refine e_Mo_file_105  ?_
        exact fin 0 (Or.inl rfl) ⟨fun w => absurd w (by decide), fun w => absurd w.1 g2⟩
    refine tv_ct rfl (by decide +kernel) (by simp [Value.category]) (Nat.le_of_ble_eq_true rfl) ?_
    refine e_Mo_file_0 rfl ?_
    refine e_Mo_file_1 (by decide) c_Mo_isTree (kp ?_) xn
    rw [if_pos hx]
    refine e_Mo_file_4 (Nat.le_of_ble_eq_true rfl) ?_
    refine e_Mo_file_5 rfl ?_
    refine e_Mo_file_6 (fun c1 => absurd c1 (by decide)) (fun _ => ?_)
    have hp := hss.2.2.1
    have hp2 := hp.2.1
    refine e_Mo_file_9 rfl ?_
    refine e_Mo_file_10 rfl ?_
    refine e_Mo_file_11  ?_
    rw [tn_x hx]
    refine e_Mo_file_13 hm.1 (by decide) (c_Mo_find hm (t := tn x) (r := 120) (by omega) (by decide) htM hp (oks okt.1) okt.2.1 sp) (kp ?_) xn
    rw [← tn_x hx]
    refine e_Mo_file_16  ?_
    refine e_Mo_file_20 (Nat.le_of_ble_eq_true rfl) ?_
    refine e_Mo_file_22 rfl ?_
    refine e_Mo_file_23 (fun c1 => absurd c1 (by decide)) (fun _ => ?_)
    refine e_Mo_file_26 rfl ?_
    refine e_Mo_file_27 hm.1 rfl ?_
    refine e_Mo_file_30  ?_
    refine e_Mo_file_32 (120) hm.a1 rfl (md (a := 1) (show 120 < 124 by omega)) mlen ?_
    rw [hp.1]
    have bad : ∀ hc M' , mh hc th (nI (lyb s).length) M' → fr mS h hc → mss M' s → km un uc M M' → (s.2.2.1 = [] ∨ ¬ hpl (gt s x) s.2.2.1 ∨ kx (gt s x) s.2.2.1 = 1) → tv_Ev G mm_Mo_file 62 [some (.ref 497), some (.int x), some (.int w), some (.int 1), some (.int (oxt (tn x) (fx (gt s x) s.2.2.1))), none] [] hc 0 0 (rn (fun h' => msr h' (nI R.1) R.2 ∧ fr mS h h')) := by
      intro hc M' h1 h2 h3 h4 h5
      refine e_Mo_file_62  ?_
      refine e_Mo_file_63  ?_
      refine e_Mo_file_67 (Nat.le_of_ble_eq_true rfl) ?_
      exact tail hc M' 1 h1 h2 h3 h4 (Or.inr rfl) ⟨fun _ => h5, fun _ => rfl⟩
    refine e_Mo_file_33 (fun c1 => ?_) (fun c1 => ?_)
    · have c1 : s.2.2.1.length = 0 := (nI_eq (b := 0) (by omega) (by decide)).mp c1
      exact bad h M hm fr.rf hss km.rf (Or.inl (List.length_eq_zero_iff.mp c1))
    · have g1 : s.2.2.1 ≠ [] := by intro e; rw [e] at c1; exact c1 rfl
      have may : kx (gt s x) s.2.2.1 ≠ 1 → tv_Ev G mm_Mo_file 52 [some (.ref 497), some (.int x), some (.int w), some (.int 1), some (.int (oxt (tn x) (fx (gt s x) s.2.2.1))), none] [] h 0 0 (rn (fun h' => msr h' (nI R.1) R.2 ∧ fr mS h h')) := by
        intro hk1
        refine e_Mo_file_52 rfl ?_
        refine e_Mo_file_53 rfl ?_
        refine e_Mo_file_54  ?_
        rw [tn_x hx]
        refine e_Mo_file_56 hm.1 (by decide) (c_Mo_mayStand hm (t := tn x) (r := 120) (by omega) (by decide) htM hp (oks okt.1) okt.2.1 sp) (kv ?_) xn
        rw [← tn_x hx]
        rintro h2 ⟨hm2, f2⟩
        have ks : km un uc M (shM M 120 s.2.2.1) := km.sh.mono (by rintro r rfl; exact ⟨by omega, by omega⟩) (fun _ q => q)
        have s2 := hss.kept ks
        by_cases g3 : hpl (gt s x) s.2.2.1
        · rw [if_pos g3]
          refine e_Mo_file_59 (fun _ => ?_) (fun c2 => absurd c2 (by decide))
          refine e_Mo_file_66  ?_
          refine e_Mo_file_67 (Nat.le_of_ble_eq_true rfl) ?_
          exact tail h2 _ 0 hm2 f2 s2 ks (Or.inl rfl) ⟨fun e => absurd e (by decide), by rintro (q | q | q); exact absurd q g1; exact absurd g3 q; exact absurd q hk1⟩
        · rw [if_neg g3]
          refine e_Mo_file_59 (fun c2 => absurd rfl c2) (fun _ => ?_)
          exact bad h2 _ hm2 f2 s2 ks (Or.inr (Or.inl g3))
      refine e_Mo_file_36 rfl ?_
      cases hq : fx (gt s x) s.2.2.1 with
      | none =>
        have hk1 : kx (gt s x) s.2.2.1 ≠ 1 := by rw [kx_no hq]; decide
        rw [hq] at may
        refine e_Mo_file_38 (fun _ => may hk1) (fun c2 => absurd (show (-1 : Int32) < 0 by decide) c2)
      | some i =>
        have hi40 := h40 i hq
        obtain ⟨f, hfi, -⟩ := fx_lt hq
        have hkf := kx_at hq hfi
        rw [hq] at may bad
        rw [oxt_some] at may bad ⊢
        refine e_Mo_file_38 (fun c2 => absurd c2 (nI_pos (by omega))) (fun _ => ?_)
        refine e_Mo_file_41 rfl ?_
        refine e_Mo_file_42 hm.1 rfl ?_
        refine e_Mo_file_45 rfl ?_
        refine e_Mo_file_47 (40 * tn x + i) hm.a3 rfl (md (a := 3) (show 40 * tn x + i < 120 by omega)) mlen ?_
        refine e_Mo_file_48  ?_
        rw [(htM.2.2 i f hfi).2.1]
        refine e_Mo_file_49 (fun c2 => ?_) (fun c2 => ?_)
        · exact bad h M hm fr.rf hss km.rf (Or.inr (Or.inr (hkf.trans c2)))
        · exact may (by rw [hkf]; exact c2)
  · rw [if_neg hx]
    refine tv_ct rfl (by decide +kernel) (by simp [Value.category]) (Nat.le_of_ble_eq_true rfl) ?_
    refine e_Mo_file_0 rfl ?_
    refine e_Mo_file_1 (by decide) c_Mo_isTree (kp ?_) xn
    rw [if_neg hx]
    refine e_Mo_file_4 (Nat.le_of_ble_eq_true rfl) ?_
    refine e_Mo_file_5 rfl ?_
    refine e_Mo_file_6 (fun _ => ?_) (fun c1 => absurd rfl c1)
    refine e_Mo_file_19  ?_
    refine e_Mo_file_20 (Nat.le_of_ble_eq_true rfl) ?_
    refine e_Mo_file_22 rfl ?_
    refine e_Mo_file_23 (fun _ => ?_) (fun c1 => absurd rfl c1)
    refine e_Mo_file_66  ?_
    refine e_Mo_file_67 (Nat.le_of_ble_eq_true rfl) ?_
    refine e_Mo_file_69 rfl ?_
    refine e_Mo_file_70 rfl ?_
    refine e_Mo_file_71 (fun c1 => absurd rfl c1) (fun _ => ?_)
    refine e_Mo_file_74  ?_
    refine e_Mo_file_75  ?_
    refine e_Mo_file_79 rfl ?_
    refine e_Mo_file_81 rfl ?_
    refine e_Mo_file_82 (fun _ => ?_) (fun c1 => absurd rfl c1)
    refine e_Mo_file_105  ?_
    refine e_Mo_file_106 hm.1 (by decide) (c_Mo_fails hm) (kv ?_) xn
    rintro h2 ⟨hm2, f2⟩
    refine e_Mo_file_109 (fun c1 => absurd c1 (by decide)) (fun _ => ?_)
    exact e_Mo_file_112 ⟨rfl, ⟨M, hm2, hss⟩, f2⟩
theorem c_Mo_add (hs : msr h th s) (ok : okX s) : tv_Ct G mm_Mo_add [.ref 497, .int x, .int w] h 0 0 (rn (fun h' => msr h' (nI (madd s x w).1) (madd s x w).2 ∧ fr mS h h')) := by
  obtain ⟨M, hm, hss⟩ := hs
  have hRx : ∃ R, R = madd s x w := ⟨_, rfl⟩
  obtain ⟨R, hR⟩ := hRx
  rw [← hR]
  unfold madd at hR
  by_cases hx : it x
  · rw [if_pos hx] at hR
    have okt := ok.tree x
    have sp := ok.S.sm
    have ht2 := tn_lt x
    have hwl := wbk_len w 4
    have htM := hss.tree x
    have h40 := fx_40 htM (q := s.2.2.1)
    have hp := hss.2.2.1
    have hp2 := hp.2.1
    have bad : R = (2, s) → ∀ v : Int32, tv_Ev G mm_Mo_add 52 [some (.ref 497), some (.int x), some (.int w), some (.int 1), some (.int v), none] [] h 0 0 (rn (fun h' => msr h' (nI R.1) R.2 ∧ fr mS h h')) := by
      intro hR2 v
      rw [hR2]
      refine e_Mo_add_52  ?_
      refine e_Mo_add_53  ?_
      refine e_Mo_add_57 (Nat.le_of_ble_eq_true rfl) ?_
      refine e_Mo_add_59 rfl ?_
      refine e_Mo_add_60 rfl ?_
      refine e_Mo_add_61 (fun _ => ?_) (fun c1 => absurd c1 (by decide))
      refine e_Mo_add_68  ?_
      refine e_Mo_add_69 rfl ?_
      refine e_Mo_add_71 rfl ?_
      refine e_Mo_add_72 (fun c1 => absurd c1 (by decide)) (fun _ => ?_)
      refine e_Mo_add_75 rfl ?_
      refine e_Mo_add_77 (fun _ => ?_) (fun c1 => absurd c1 (by decide))
      refine e_Mo_add_101  ?_
      refine e_Mo_add_102 hm.1 (by decide) (c_Mo_fails hm) (kv ?_) xn
      rintro h2 ⟨hm2, f2⟩
      refine e_Mo_add_105 (fun _ => ?_) (fun c1 => absurd c1 (by decide))
      exact e_Mo_add_115 ⟨rfl, ⟨M, hm2, hss⟩, f2⟩
    have main : tv_Ev G mm_Mo_add 30 [some (.ref 497), some (.int x), some (.int w), some (.int 1), none, none] [.int (oxt (tn x) (fx (gt s x) s.2.2.1))] h 0 0 (rn (fun h' => msr h' (nI R.1) R.2 ∧ fr mS h h')) := by
      refine e_Mo_add_30 (Nat.le_of_ble_eq_true rfl) ?_
      refine e_Mo_add_32 rfl ?_
      refine e_Mo_add_33 (fun c1 => absurd c1 (by decide)) (fun _ => ?_)
      refine e_Mo_add_36 rfl ?_
      cases hq : fx (gt s x) s.2.2.1 with
      | none =>
        rw [hq] at hR
        refine e_Mo_add_38 (fun _ => ?_) (fun c2 => absurd (show (-1 : Int32) < 0 by decide) c2)
        exact bad hR _
      | some i =>
        have hi40 := h40 i hq
        obtain ⟨f, hfi, hf1⟩ := fx_lt hq
        have hil := (List.getElem?_eq_some_iff.mp hfi).1
        have hme := htM.2.2 i f hfi
        have hc16 := hme.2.2.2.1
        rw [hq] at hR
        simp only [hfi] at hR
        rw [oxt_some]
        refine e_Mo_add_38 (fun c2 => absurd c2 (nI_pos (by omega))) (fun _ => ?_)
        refine e_Mo_add_41 rfl ?_
        refine e_Mo_add_42 hm.1 rfl ?_
        refine e_Mo_add_45 rfl ?_
        refine e_Mo_add_47 (40 * tn x + i) hm.a3 rfl (md (a := 3) (show 40 * tn x + i < 120 by omega)) mlen ?_
        refine e_Mo_add_48  ?_
        rw [hme.2.1]
        refine e_Mo_add_49 (fun c2 => ?_) (fun c2 => ?_)
        · have hf2 : f.2.1 = 2 := by
            rcases (okt.1 f (List.mem_of_getElem? hfi)).2.1 with ⟨w1, -⟩ | w1
            · exact absurd w1 c2
            · exact w1
          rw [if_pos hf2] at hR
          refine e_Mo_add_56  ?_
          refine e_Mo_add_57 (Nat.le_of_ble_eq_true rfl) ?_
          refine e_Mo_add_59 rfl ?_
          refine e_Mo_add_60 rfl ?_
          refine e_Mo_add_61 (fun _ => ?_) (fun c1 => absurd c1 (by decide))
          refine e_Mo_add_68  ?_
          refine e_Mo_add_69 rfl ?_
          refine e_Mo_add_71 rfl ?_
          refine e_Mo_add_72 (fun c1 => absurd c1 (by decide)) (fun _ => ?_)
          refine e_Mo_add_75 rfl ?_
          refine e_Mo_add_77 (fun c1 => absurd rfl c1) (fun _ => ?_)
          refine e_Mo_add_80 rfl ?_
          refine e_Mo_add_81 hm.1 rfl ?_
          refine e_Mo_add_84 rfl ?_
          refine e_Mo_add_86 (40 * tn x + i) hm.a4 rfl (md (a := 4) (show 40 * tn x + i < 120 by omega)) mlen ?_
          refine e_Mo_add_87 rfl ?_
          rw [hme.2.2.1]
          refine e_Mo_add_88 (Nat.le_of_ble_eq_true rfl) c_Mo_many (kp ?_) xn
          refine e_Mo_add_91  ?_
          refine e_Mo_add_92  ?_
          rw [nI_add]
          refine e_Mo_add_94 (fun c3 => ?_) (fun c3 => ?_)
          · have c3 := (nI_leI (b := 16) (by omega) (by decide)).mp c3
            rw [if_neg (by omega)] at hR
            rw [hR]
            refine e_Mo_add_101  ?_
            refine e_Mo_add_102 hm.1 (by decide) (c_Mo_fails hm) (kv ?_) xn
            rintro h2 ⟨hm2, f2⟩
            refine e_Mo_add_105 (fun c1 => absurd rfl c1) (fun _ => ?_)
            refine e_Mo_add_108 rfl ?_
            refine e_Mo_add_109 rfl ?_
            refine e_Mo_add_111 rfl ?_
            refine e_Mo_add_112 hm2.1 (by decide) (c_Mo_append hm2 (r := 40 * tn x + i) (p := f.1) (kd := f.2.1) (cs := f.2.2) (by omega) c3 hme) (kn ?_) xn
            rintro h3 ⟨⟨M3, hm3, e3, k3⟩, f3⟩
            have t3 := htM.set hil k3 e3
            refine e_Mo_add_115 ⟨rfl, ⟨M3, ?_, hss.upd t3 (k3.mono (by rintro r rfl; exact Or.inl ⟨by omega, by omega⟩) (fun _ q => q.elim))⟩, f2.tr f3⟩
            rw [lyb_st]
            exact hm3
          · have c3 : 16 < f.2.2.length + (wbk w 4).length := by
              rcases Nat.lt_or_ge 16 (f.2.2.length + (wbk w 4).length) with q | q
              · exact q
              · exact absurd (nI_le q (by decide)) c3
            rw [if_pos c3] at hR
            rw [hR]
            refine e_Mo_add_97  ?_
            refine e_Mo_add_98  ?_
            refine e_Mo_add_102 hm.1 (by decide) (c_Mo_fails hm) (kv ?_) xn
            rintro h2 ⟨hm2, f2⟩
            refine e_Mo_add_105 (fun _ => ?_) (fun c1 => absurd c1 (by decide))
            exact e_Mo_add_115 ⟨rfl, ⟨M, hm2, hss⟩, f2⟩
        · rw [if_neg (show ¬ f.2.1 = 2 from by rw [c2]; decide)] at hR
          exact bad hR _
    refine tv_ct rfl (by decide +kernel) (by simp [Value.category]) (Nat.le_of_ble_eq_true rfl) ?_
    refine e_Mo_add_0 rfl ?_
    refine e_Mo_add_1 (by decide) c_Mo_isTree (kp ?_) xn
    rw [if_pos hx]
    refine e_Mo_add_4 (Nat.le_of_ble_eq_true rfl) ?_
    refine e_Mo_add_5 rfl ?_
    refine e_Mo_add_6 (fun c1 => absurd c1 (by decide)) (fun _ => ?_)
    refine e_Mo_add_9 rfl ?_
    refine e_Mo_add_10 hm.1 rfl ?_
    refine e_Mo_add_13  ?_
    refine e_Mo_add_15 (120) hm.a1 rfl (md (a := 1) (show 120 < 124 by omega)) mlen ?_
    rw [hp.1]
    refine e_Mo_add_16 (fun c1 => ?_) (fun c1 => ?_)
    · have c1 := (nI_pos_iff (by omega)).mp c1
      have hq : fx (gt s x) s.2.2.1 = none := by rw [List.length_eq_zero_iff.mp c1]; exact fx_nil okt.1
      rw [hq] at main
      refine e_Mo_add_29  ?_
      exact main
    · refine e_Mo_add_19 rfl ?_
      refine e_Mo_add_20 rfl ?_
      refine e_Mo_add_21  ?_
      rw [tn_x hx]
      refine e_Mo_add_23 hm.1 (by decide) (c_Mo_find hm (t := tn x) (r := 120) (by omega) (by decide) htM hp (oks okt.1) okt.2.1 sp) (kp ?_) xn
      rw [← tn_x hx]
      refine e_Mo_add_26  ?_
      exact main
  · rw [if_neg hx] at hR
    rw [hR]
    refine tv_ct rfl (by decide +kernel) (by simp [Value.category]) (Nat.le_of_ble_eq_true rfl) ?_
    refine e_Mo_add_0 rfl ?_
    refine e_Mo_add_1 (by decide) c_Mo_isTree (kp ?_) xn
    rw [if_neg hx]
    refine e_Mo_add_4 (Nat.le_of_ble_eq_true rfl) ?_
    refine e_Mo_add_5 rfl ?_
    refine e_Mo_add_6 (fun _ => ?_) (fun c1 => absurd rfl c1)
    refine e_Mo_add_29  ?_
    refine e_Mo_add_30 (Nat.le_of_ble_eq_true rfl) ?_
    refine e_Mo_add_32 rfl ?_
    refine e_Mo_add_33 (fun _ => ?_) (fun c1 => absurd rfl c1)
    refine e_Mo_add_56  ?_
    refine e_Mo_add_57 (Nat.le_of_ble_eq_true rfl) ?_
    refine e_Mo_add_59 rfl ?_
    refine e_Mo_add_60 rfl ?_
    refine e_Mo_add_61 (fun c1 => absurd rfl c1) (fun _ => ?_)
    refine e_Mo_add_64  ?_
    refine e_Mo_add_65  ?_
    refine e_Mo_add_69 rfl ?_
    refine e_Mo_add_71 rfl ?_
    refine e_Mo_add_72 (fun _ => ?_) (fun c1 => absurd rfl c1)
    refine e_Mo_add_101  ?_
    refine e_Mo_add_102 hm.1 (by decide) (c_Mo_fails hm) (kv ?_) xn
    rintro h2 ⟨hm2, f2⟩
    refine e_Mo_add_105 (fun _ => ?_) (fun c1 => absurd c1 (by decide))
    exact e_Mo_add_115 ⟨rfl, ⟨M, hm2, hss⟩, f2⟩
theorem l_Mo_isAlike (hm : mh h th us M) (ha : a < 120) (hb : b < 120) (hf : me M a f) (hg : me M b g) (of : okE f) (og : okE g) (hk : f.2.1 = g.2.1) (hkf : f.2.1 = 2) (hlen : f.2.2.length = g.2.2.length) : ∀ j k, j + k = f.2.2.length → f.2.2.take k = g.2.2.take k → tv_Ev G mm_Mo_isAlike 49 [some (.ref 497), some (.int (nI a)), some (.int (nI b)), some (.int 1), some (.int (nI k))] [] h c z (rv (.int (if f.2 = g.2 then 1 else 0)) (fun h' => h' = h)) := by
  have hl := hf.2.2.2.1
  intro j
  induction j with
  | zero =>
    intro k hk0 ht
    have hk0 : k = f.2.2.length := by omega
    subst hk0
    rw [List.take_length, hlen, List.take_length] at ht
    refine e_Mo_isAlike_49 rfl ?_
    refine e_Mo_isAlike_50 (fun c1 => absurd c1 (by decide)) (fun _ => ?_)
    refine e_Mo_isAlike_53 rfl ?_
    refine e_Mo_isAlike_54 hm.1 rfl ?_
    refine e_Mo_isAlike_57 rfl ?_
    refine e_Mo_isAlike_58 (a) hm.a3 rfl (md (a := 3) (show a < 120 by omega)) mlen ?_
    refine e_Mo_isAlike_59  ?_
    rw [hf.2.1]
    refine e_Mo_isAlike_60 (fun c1 => absurd hkf c1) (fun _ => ?_)
    refine e_Mo_isAlike_63 rfl ?_
    refine e_Mo_isAlike_65 rfl ?_
    refine e_Mo_isAlike_66 hm.1 rfl ?_
    refine e_Mo_isAlike_69 rfl ?_
    refine e_Mo_isAlike_70 (a) hm.a4 rfl (md (a := 4) (show a < 120 by omega)) mlen ?_
    rw [hf.2.2.1]
    refine e_Mo_isAlike_71 (fun _ => ?_) (fun c1 => absurd (nI_le (Nat.le_refl _) (by omega)) c1)
    refine e_Mo_isAlike_113 rfl ?_
    exact e_Mo_isAlike_114 (Or.inr rfl) ⟨by rw [if_pos (Prod.ext hk ht)], rfl⟩
  | succ j ih =>
    intro k hk0 ht
    have hfk : f.2.2[k]? = some f.2.2[k] := List.getElem?_eq_getElem (by omega)
    have hgk : g.2.2[k]? = some g.2.2[k] := List.getElem?_eq_getElem (by omega)
    have b1 := of.2.2.2 _ (List.getElem_mem (show k < f.2.2.length by omega))
    have b2 := og.2.2.2 _ (List.getElem_mem (show k < g.2.2.length by omega))
    refine e_Mo_isAlike_49 rfl ?_
    refine e_Mo_isAlike_50 (fun c1 => absurd c1 (by decide)) (fun _ => ?_)
    refine e_Mo_isAlike_53 rfl ?_
    refine e_Mo_isAlike_54 hm.1 rfl ?_
    refine e_Mo_isAlike_57 rfl ?_
    refine e_Mo_isAlike_58 (a) hm.a3 rfl (md (a := 3) (show a < 120 by omega)) mlen ?_
    refine e_Mo_isAlike_59  ?_
    rw [hf.2.1]
    refine e_Mo_isAlike_60 (fun c1 => absurd hkf c1) (fun _ => ?_)
    refine e_Mo_isAlike_63 rfl ?_
    refine e_Mo_isAlike_65 rfl ?_
    refine e_Mo_isAlike_66 hm.1 rfl ?_
    refine e_Mo_isAlike_69 rfl ?_
    refine e_Mo_isAlike_70 (a) hm.a4 rfl (md (a := 4) (show a < 120 by omega)) mlen ?_
    rw [hf.2.2.1]
    refine e_Mo_isAlike_71 (fun c1 => absurd c1 (nI_ge (by omega) (by omega))) (fun _ => ?_)
    refine e_Mo_isAlike_74 rfl ?_
    refine e_Mo_isAlike_75 hm.1 rfl ?_
    refine e_Mo_isAlike_78  ?_
    refine e_Mo_isAlike_80 rfl ?_
    refine e_Mo_isAlike_81  ?_
    refine e_Mo_isAlike_82 rfl ?_
    refine e_Mo_isAlike_84  ?_
    refine e_Mo_isAlike_85 (16 * a + k) hm.a5 (ix16 _ _) (md (a := 5) (show 16 * a + k < 1920 by omega)) mlen ?_
    refine e_Mo_isAlike_86 rfl ?_
    refine e_Mo_isAlike_87 hm.1 rfl ?_
    refine e_Mo_isAlike_90  ?_
    refine e_Mo_isAlike_92 rfl ?_
    refine e_Mo_isAlike_93  ?_
    refine e_Mo_isAlike_94 rfl ?_
    refine e_Mo_isAlike_96  ?_
    refine e_Mo_isAlike_97 (16 * b + k) hm.a5 (ix16 _ _) (md (a := 5) (show 16 * b + k < 1920 by omega)) mlen ?_
    rw [hf.2.2.2.2 k _ hfk, hg.2.2.2.2 k _ hgk]
    refine e_Mo_isAlike_98 (fun c1 => ?_) (fun c1 => ?_)
    · refine e_Mo_isAlike_105  ?_
      refine e_Mo_isAlike_106 (Nat.le_of_ble_eq_true rfl) ?_
      refine e_Mo_isAlike_107 rfl ?_
      refine e_Mo_isAlike_110  ?_
      refine e_Mo_isAlike_49 rfl ?_
      refine e_Mo_isAlike_50 (fun _ => ?_) (fun c2 => absurd rfl c2)
      refine e_Mo_isAlike_113 rfl ?_
      refine e_Mo_isAlike_114 (Or.inl rfl) ⟨?_, rfl⟩
      rw [if_neg]
      intro e
      have e1 : f.2.2[k]? = g.2.2[k]? := by rw [e]
      rw [hfk, hgk] at e1
      exact c1 (by rw [Option.some.inj e1])
    · have e1 : f.2.2[k] = g.2.2[k] := (nI_eq (by omega) (by omega)).mp c1
      refine e_Mo_isAlike_101  ?_
      refine e_Mo_isAlike_102  ?_
      refine e_Mo_isAlike_106 (Nat.le_of_ble_eq_true rfl) ?_
      refine e_Mo_isAlike_107 rfl ?_
      refine e_Mo_isAlike_110  ?_
      have := ih (k + 1) (by omega) (by rw [take_g hfk, take_g hgk, ht, e1])
      rw [nI_succ] at this
      exact this
theorem c_Mo_isAlike (hm : mh h th us M) (ha : a < 120) (hb : b < 120) (hf : me M a f) (hg : me M b g) (of : okE f) (og : okE g) : tv_Ct G mm_Mo_isAlike [.ref 497, .int (nI a), .int (nI b)] h 0 0 (rv (.int (if f.2 = g.2 then 1 else 0)) (fun h' => h' = h)) := by
  have hl := hf.2.2.2.1
  have hl2 := hg.2.2.2.1
  have no : f.2 ≠ g.2 → tv_Ev G mm_Mo_isAlike 44 [some (.ref 497), some (.int (nI a)), some (.int (nI b)), none, none] [] h 0 0 (rv (.int (if f.2 = g.2 then 1 else 0)) (fun h' => h' = h)) := by
    intro hn
    refine e_Mo_isAlike_44  ?_
    refine e_Mo_isAlike_45 (Nat.le_of_ble_eq_true rfl) ?_
    refine e_Mo_isAlike_46  ?_
    refine e_Mo_isAlike_47 (Nat.le_of_ble_eq_true rfl) ?_
    refine e_Mo_isAlike_49 rfl ?_
    refine e_Mo_isAlike_50 (fun _ => ?_) (fun c2 => absurd rfl c2)
    refine e_Mo_isAlike_113 rfl ?_
    exact e_Mo_isAlike_114 (Or.inl rfl) ⟨by rw [if_neg hn], rfl⟩
  refine tv_ct rfl (by decide +kernel) (by simp [Value.category]) (Nat.le_of_ble_eq_true rfl) ?_
  refine e_Mo_isAlike_0 rfl ?_
  refine e_Mo_isAlike_1 hm.1 rfl ?_
  refine e_Mo_isAlike_4 rfl ?_
  refine e_Mo_isAlike_5 (a) hm.a3 rfl (md (a := 3) (show a < 120 by omega)) mlen ?_
  refine e_Mo_isAlike_6 rfl ?_
  refine e_Mo_isAlike_7 hm.1 rfl ?_
  refine e_Mo_isAlike_10 rfl ?_
  refine e_Mo_isAlike_11 (b) hm.a3 rfl (md (a := 3) (show b < 120 by omega)) mlen ?_
  rw [hf.2.1, hg.2.1]
  refine e_Mo_isAlike_12 (fun c1 => no (fun e => c1 (by rw [e]))) (fun c1 => ?_)
  refine e_Mo_isAlike_15 rfl ?_
  refine e_Mo_isAlike_16 hm.1 rfl ?_
  refine e_Mo_isAlike_19 rfl ?_
  refine e_Mo_isAlike_20 (a) hm.a3 rfl (md (a := 3) (show a < 120 by omega)) mlen ?_
  refine e_Mo_isAlike_21  ?_
  rw [hf.2.1]
  refine e_Mo_isAlike_22 (fun c2 => ?_) (fun c2 => ?_)
  · have e1 : f.2 = g.2 := by
      refine Prod.ext c1 ?_
      rcases of.2.1 with ⟨-, w1⟩ | w1
      · rcases og.2.1 with ⟨-, w2⟩ | w2
        · rw [w1, w2]
        · rw [← c1, c2] at w2; exact absurd w2 (by decide)
      · rw [c2] at w1; exact absurd w1 (by decide)
    refine e_Mo_isAlike_40  ?_
    refine e_Mo_isAlike_41  ?_
    refine e_Mo_isAlike_45 (Nat.le_of_ble_eq_true rfl) ?_
    refine e_Mo_isAlike_46  ?_
    refine e_Mo_isAlike_47 (Nat.le_of_ble_eq_true rfl) ?_
    refine e_Mo_isAlike_49 rfl ?_
    refine e_Mo_isAlike_50 (fun c3 => absurd c3 (by decide)) (fun _ => ?_)
    refine e_Mo_isAlike_53 rfl ?_
    refine e_Mo_isAlike_54 hm.1 rfl ?_
    refine e_Mo_isAlike_57 rfl ?_
    refine e_Mo_isAlike_58 (a) hm.a3 rfl (md (a := 3) (show a < 120 by omega)) mlen ?_
    refine e_Mo_isAlike_59  ?_
    rw [hf.2.1]
    refine e_Mo_isAlike_60 (fun _ => ?_) (fun c3 => absurd (c2.symm.trans c3) (by decide))
    refine e_Mo_isAlike_113 rfl ?_
    exact e_Mo_isAlike_114 (Or.inr rfl) ⟨by rw [if_pos e1], rfl⟩
  · have hkf : f.2.1 = 2 := by
      rcases of.2.1 with ⟨w1, -⟩ | w1
      · exact absurd w1 c2
      · exact w1
    refine e_Mo_isAlike_25 rfl ?_
    refine e_Mo_isAlike_26 hm.1 rfl ?_
    refine e_Mo_isAlike_29 rfl ?_
    refine e_Mo_isAlike_30 (a) hm.a4 rfl (md (a := 4) (show a < 120 by omega)) mlen ?_
    refine e_Mo_isAlike_31 rfl ?_
    refine e_Mo_isAlike_32 hm.1 rfl ?_
    refine e_Mo_isAlike_35 rfl ?_
    refine e_Mo_isAlike_36 (b) hm.a4 rfl (md (a := 4) (show b < 120 by omega)) mlen ?_
    rw [hf.2.2.1, hg.2.2.1]
    refine e_Mo_isAlike_37 (fun c3 => no (fun e => c3 (by rw [e]))) (fun c3 => ?_)
    have c3 : f.2.2.length = g.2.2.length := (nI_eq (by omega) (by omega)).mp c3
    refine e_Mo_isAlike_40  ?_
    refine e_Mo_isAlike_41  ?_
    refine e_Mo_isAlike_45 (Nat.le_of_ble_eq_true rfl) ?_
    refine e_Mo_isAlike_46  ?_
    refine e_Mo_isAlike_47 (Nat.le_of_ble_eq_true rfl) ?_
    exact l_Mo_isAlike hm ha hb hf hg of og c1 hkf c3 f.2.2.length 0 rfl rfl
theorem l_Mo_same (hm : mh h th us M) (h0 : mt M 0 s.1) (h1 : mt M 1 s.2.1) (ok : okX s) (hlen : s.1.length = s.2.1.length) : ∀ j k, j + k = s.1.length → s.1.take k = s.2.1.take k → tv_Ev G mm_Mo_same 28 [some (.ref 497), some (.int 1), some (.int (nI k))] [] h c z (rv (.int (if s.1 = s.2.1 then 1 else 0)) (fun h' => h' = h)) := by
  have hl := h0.2.1
  intro j
  induction j with
  | zero =>
    intro k hk ht
    have hk : k = s.1.length := by omega
    subst hk
    rw [List.take_length, hlen, List.take_length] at ht
    refine e_Mo_same_28 rfl ?_
    refine e_Mo_same_29 rfl ?_
    refine e_Mo_same_30 hm.1 rfl ?_
    refine e_Mo_same_33  ?_
    refine e_Mo_same_34 (0) hm.a2 rfl (md (a := 2) (show 0 < 3 by omega)) mlen ?_
    rw [h0.1]
    refine e_Mo_same_35 (fun _ => ?_) (fun c1 => absurd (nI_le (Nat.le_refl _) (by omega)) c1)
    refine e_Mo_same_78 rfl ?_
    exact e_Mo_same_79 (Or.inr rfl) ⟨by rw [if_pos ht], rfl⟩
  | succ j ih =>
    intro k hk ht
    have hfk : s.1[k]? = some s.1[k] := List.getElem?_eq_getElem (by omega)
    have hgk : s.2.1[k]? = some s.2.1[k] := List.getElem?_eq_getElem (by omega)
    have of := ok.1.1 _ (List.getElem_mem (show k < s.1.length by omega))
    have og := ok.2.1.1 _ (List.getElem_mem (show k < s.2.1.length by omega))
    have m0 := h0.2.2 k _ hfk
    have m1 := h1.2.2 k _ hgk
    rw [Nat.mul_zero, Nat.zero_add] at m0
    rw [Nat.mul_one] at m1
    have no : s.1[k] ≠ s.2.1[k] → tv_Ev G mm_Mo_same 70 [some (.ref 497), some (.int 1), some (.int (nI k))] [] h c z (rv (.int (if s.1 = s.2.1 then 1 else 0)) (fun h' => h' = h)) := by
      intro hn
      have hne : ¬ s.1 = s.2.1 := by
        intro e
        have e1 : s.1[k]? = s.2.1[k]? := by rw [e]
        rw [hfk, hgk] at e1
        exact hn (Option.some.inj e1)
      refine e_Mo_same_70  ?_
      refine e_Mo_same_71 (Nat.le_of_ble_eq_true rfl) ?_
      refine e_Mo_same_72 rfl ?_
      refine e_Mo_same_75  ?_
      refine e_Mo_same_28 rfl ?_
      refine e_Mo_same_29 rfl ?_
      refine e_Mo_same_30 hm.1 rfl ?_
      refine e_Mo_same_33  ?_
      refine e_Mo_same_34 (0) hm.a2 rfl (md (a := 2) (show 0 < 3 by omega)) mlen ?_
      have fin : tv_Ev G mm_Mo_same 78 [some (.ref 497), some (.int 0), some (.int (nI k + 1))] [] h c z (rv (.int (if s.1 = s.2.1 then 1 else 0)) (fun h' => h' = h)) := by
        refine e_Mo_same_78 rfl ?_
        exact e_Mo_same_79 (Or.inl rfl) ⟨by rw [if_neg hne], rfl⟩
      refine e_Mo_same_35 (fun _ => fin) (fun _ => ?_)
      refine e_Mo_same_38 rfl ?_
      refine e_Mo_same_39 (fun _ => fin) (fun c2 => absurd rfl c2)
    refine e_Mo_same_28 rfl ?_
    refine e_Mo_same_29 rfl ?_
    refine e_Mo_same_30 hm.1 rfl ?_
    refine e_Mo_same_33  ?_
    refine e_Mo_same_34 (0) hm.a2 rfl (md (a := 2) (show 0 < 3 by omega)) mlen ?_
    rw [h0.1]
    refine e_Mo_same_35 (fun c1 => absurd c1 (nI_ge (by omega) (by omega))) (fun _ => ?_)
    refine e_Mo_same_38 rfl ?_
    refine e_Mo_same_39 (fun c1 => absurd c1 (by decide)) (fun _ => ?_)
    refine e_Mo_same_42 rfl ?_
    refine e_Mo_same_43 rfl ?_
    refine e_Mo_same_44  ?_
    refine e_Mo_same_46 rfl ?_
    refine e_Mo_same_47  ?_
    rw [show (40 : Int32) + nI k = nI (40 + k) from nI_add 40 k]
    refine e_Mo_same_48 hm.1 (by decide) (c_Mo_order hm (a := k) (b := 40 + k) (by omega) (by omega) m0.1 m1.1 of.s og.s) (kp ?_) xn
    by_cases e1 : s.1[k].1 = s.2.1[k].1
    · rw [(rov_eq of.s og.s m0.1.2.1 m1.1.2.1).mpr e1]
      refine e_Mo_same_51 (fun c1 => absurd rfl c1) (fun _ => ?_)
      refine e_Mo_same_54 rfl ?_
      refine e_Mo_same_55 rfl ?_
      refine e_Mo_same_56  ?_
      refine e_Mo_same_58 rfl ?_
      refine e_Mo_same_59  ?_
      rw [show (40 : Int32) + nI k = nI (40 + k) from nI_add 40 k]
      refine e_Mo_same_60 hm.1 (by decide) (c_Mo_isAlike hm (a := k) (b := 40 + k) (by omega) (by omega) m0 m1 of og) (kp ?_) xn
      by_cases e2 : s.1[k].2 = s.2.1[k].2
      · rw [if_pos e2]
        refine e_Mo_same_63 (fun c1 => absurd c1 (by decide)) (fun _ => ?_)
        refine e_Mo_same_66  ?_
        refine e_Mo_same_67  ?_
        refine e_Mo_same_71 (Nat.le_of_ble_eq_true rfl) ?_
        refine e_Mo_same_72 rfl ?_
        refine e_Mo_same_75  ?_
        have := ih (k + 1) (by omega) (by rw [take_g hfk, take_g hgk, ht, Prod.ext e1 e2])
        rw [nI_succ] at this
        exact this
      · rw [if_neg e2]
        refine e_Mo_same_63 (fun _ => ?_) (fun c1 => absurd rfl c1)
        exact no (fun e => e2 (by rw [e]))
    · refine e_Mo_same_51 (fun _ => ?_) (fun c1 => absurd ((rov_eq of.s og.s m0.1.2.1 m1.1.2.1).mp c1) e1)
      exact no (fun e => e1 (by rw [e]))
theorem c_Mo_same (hs : msr h th s) (ok : okX s) : tv_Ct G mm_Mo_same [.ref 497] h 0 0 (rv (.int (if s.1 = s.2.1 then 1 else 0)) (fun h' => msr h' 0 s ∧ fr mS h h')) := by
  obtain ⟨M, hm, hss⟩ := hs
  have hl := hss.1.2.1
  have hl2 := hss.2.1.2.1
  refine tv_ct rfl (by decide +kernel) (by simp [Value.category]) (Nat.le_of_ble_eq_true rfl) ?_
  refine e_Mo_same_0 rfl ?_
  refine e_Mo_same_1  ?_
  refine e_Mo_same_2 hm.1 (Nat.le_of_ble_eq_true rfl) ?_
  have hm2 := hm.obj 0 (nI (lyb s).length)
  have ff : fr mS h _ := fr.set (h := h) (e := (5, [.int 0, .ref 498, .ref 499, .ref 500, .ref 501, .ref 502, .ref 503, .ref 504, .int (nI (lyb s).length)])) (a := 497) (S := mS) ⟨by omega, by omega⟩
  have P : msr (h.set 497 (5, [.int 0, .ref 498, .ref 499, .ref 500, .ref 501, .ref 502, .ref 503, .ref 504, .int (nI (lyb s).length)])) 0 s ∧ fr mS h (h.set 497 (5, [.int 0, .ref 498, .ref 499, .ref 500, .ref 501, .ref 502, .ref 503, .ref 504, .int (nI (lyb s).length)])) := ⟨⟨M, hm2, hss⟩, ff⟩
  refine e_Mo_same_5 rfl ?_
  refine e_Mo_same_6 hm2.1 rfl ?_
  refine e_Mo_same_9  ?_
  refine e_Mo_same_10 (0) hm2.a2 rfl (md (a := 2) (show 0 < 3 by omega)) mlen ?_
  refine e_Mo_same_11 rfl ?_
  refine e_Mo_same_12 hm2.1 rfl ?_
  refine e_Mo_same_15  ?_
  refine e_Mo_same_16 (1) hm2.a2 rfl (md (a := 2) (show 1 < 3 by omega)) mlen ?_
  rw [hss.1.1, hss.2.1.1]
  refine e_Mo_same_17 (fun c1 => ?_) (fun c1 => ?_)
  · have hne : ¬ s.1 = s.2.1 := fun e => c1 (by rw [e])
    have fin : tv_Ev G mm_Mo_same 78 [some (.ref 497), some (.int 0), some (.int 0)] [] (h.set 497 (5, [.int 0, .ref 498, .ref 499, .ref 500, .ref 501, .ref 502, .ref 503, .ref 504, .int (nI (lyb s).length)])) 0 0 (rv (.int (if s.1 = s.2.1 then 1 else 0)) (fun h' => msr h' 0 s ∧ fr mS h h')) := by
      refine e_Mo_same_78 rfl ?_
      exact e_Mo_same_79 (Or.inl rfl) ⟨by rw [if_neg hne], P⟩
    refine e_Mo_same_24  ?_
    refine e_Mo_same_25 (Nat.le_of_ble_eq_true rfl) ?_
    refine e_Mo_same_26  ?_
    refine e_Mo_same_27 (Nat.le_of_ble_eq_true rfl) ?_
    refine e_Mo_same_28 rfl ?_
    refine e_Mo_same_29 rfl ?_
    refine e_Mo_same_30 hm2.1 rfl ?_
    refine e_Mo_same_33  ?_
    refine e_Mo_same_34 (0) hm2.a2 rfl (md (a := 2) (show 0 < 3 by omega)) mlen ?_
    refine e_Mo_same_35 (fun _ => fin) (fun _ => ?_)
    refine e_Mo_same_38 rfl ?_
    refine e_Mo_same_39 (fun _ => fin) (fun c2 => absurd rfl c2)
  · refine e_Mo_same_20  ?_
    refine e_Mo_same_21  ?_
    refine e_Mo_same_25 (Nat.le_of_ble_eq_true rfl) ?_
    refine e_Mo_same_26  ?_
    refine e_Mo_same_27 (Nat.le_of_ble_eq_true rfl) ?_
    refine ev_post ?_ (l_Mo_same hm2 hss.1 hss.2.1 ok ((nI_eq (by omega) (by omega)).mp c1) s.1.length 0 rfl rfl)
    rintro r h' ⟨e, rfl⟩
    exact ⟨e, P⟩
theorem c_Mo_entries (hs : msr h th s) : tv_Ct G mm_Mo_entries [.ref 497, .int x] h 0 0 (rv (.int (if it x then nI (gt s x).length else 0)) (fun h' => msr h' (nI (if it x then 0 else 1)) s ∧ fr mS h h')) := by
  obtain ⟨M, hm, hss⟩ := hs
  refine tv_ct rfl (by decide +kernel) (by simp [Value.category]) (Nat.le_of_ble_eq_true rfl) ?_
  refine e_Mo_entries_0 rfl ?_
  refine e_Mo_entries_1 rfl ?_
  refine e_Mo_entries_2 (Nat.le_of_ble_eq_true rfl) c_Mo_isTree (kp ?_) xn
  have ht2 := tn_lt x
  by_cases hx : it x
  · rw [if_pos hx, if_pos hx, if_pos hx]
    refine e_Mo_entries_5 (fun _ => ?_) (fun c1 => absurd c1 (by decide))
    refine e_Mo_entries_12  ?_
    refine e_Mo_entries_13  ?_
    refine e_Mo_entries_14  ?_
    refine e_Mo_entries_15 hm.1 (by decide) (c_Mo_fails hm) (kv ?_) xn
    rintro h2 ⟨hm2, f2⟩
    refine e_Mo_entries_18 (fun _ => ?_) (fun c1 => absurd rfl c1)
    refine e_Mo_entries_25 rfl ?_
    refine e_Mo_entries_26 hm2.1 rfl ?_
    refine e_Mo_entries_29 rfl ?_
    refine e_Mo_entries_30 (Nat.le_of_ble_eq_true rfl) c_Mo_isTree (kp ?_) xn
    rw [if_pos hx]
    refine e_Mo_entries_33 (fun c1 => absurd c1 (by decide)) (fun _ => ?_)
    refine e_Mo_entries_36 rfl ?_
    refine e_Mo_entries_37  ?_
    refine e_Mo_entries_41 (tn x) hm2.a2 (tn_x hx) (md (a := 2) (show tn x < 3 by omega)) mlen ?_
    exact e_Mo_entries_42 ⟨by rw [(hss.tree x).1], ⟨M, hm2, hss⟩, f2⟩
  · rw [if_neg hx, if_neg hx, if_neg hx]
    refine e_Mo_entries_5 (fun c1 => absurd rfl c1) (fun _ => ?_)
    refine e_Mo_entries_8  ?_
    refine e_Mo_entries_9  ?_
    refine e_Mo_entries_13  ?_
    refine e_Mo_entries_14  ?_
    refine e_Mo_entries_15 hm.1 (by decide) (c_Mo_fails hm) (kv ?_) xn
    rintro h2 ⟨hm2, f2⟩
    refine e_Mo_entries_18 (fun c1 => absurd c1 (by decide)) (fun _ => ?_)
    refine e_Mo_entries_21  ?_
    refine e_Mo_entries_22  ?_
    exact e_Mo_entries_42 ⟨rfl, ⟨M, hm2, hss⟩, f2⟩
theorem c_Mo_layer (hs : msr h th s) : tv_Ct G mm_Mo_layer [.ref 497, .int x] h 0 0 (rv (.int (mlay s x).2) (fun h' => msr h' (nI (mlay s x).1) s ∧ fr mS h h')) := by
  obtain ⟨M, hm, hss⟩ := hs
  have hlen := hss.2.2.2.2
  unfold mlay
  have bad : tv_Ev G mm_Mo_layer 13 [some (.ref 497), some (.int x)] [.ref 497] h 0 0 (rv (.int 0) (fun h' => msr h' (nI 1) s ∧ fr mS h h')) := by
    refine e_Mo_layer_13  ?_
    refine e_Mo_layer_14  ?_
    refine e_Mo_layer_18  ?_
    refine e_Mo_layer_19  ?_
    refine e_Mo_layer_20 hm.1 (by decide) (c_Mo_fails hm) (kv ?_) xn
    rintro h2 ⟨hm2, f2⟩
    refine e_Mo_layer_23 (fun c1 => absurd c1 (by decide)) (fun _ => ?_)
    refine e_Mo_layer_26  ?_
    refine e_Mo_layer_27  ?_
    exact e_Mo_layer_36 ⟨rfl, ⟨M, hm2, hss⟩, f2⟩
  rcases pk_ix x (n := (lyb s).length) (by omega) with g | g | ⟨j, hj, rfl⟩
  · rw [if_pos (Or.inl g)]
    refine tv_ct rfl (by decide +kernel) (by simp [Value.category]) (Nat.le_of_ble_eq_true rfl) ?_
    refine e_Mo_layer_0 rfl ?_
    refine e_Mo_layer_1 rfl ?_
    refine e_Mo_layer_2 (fun _ => bad) (fun c1 => absurd g c1)
  · rw [if_pos (Or.inr g)]
    refine tv_ct rfl (by decide +kernel) (by simp [Value.category]) (Nat.le_of_ble_eq_true rfl) ?_
    refine e_Mo_layer_0 rfl ?_
    refine e_Mo_layer_1 rfl ?_
    refine e_Mo_layer_2 (fun _ => bad) (fun c1 => ?_)
    refine e_Mo_layer_5 rfl ?_
    refine e_Mo_layer_6 rfl ?_
    refine e_Mo_layer_7 hm.1 rfl ?_
    refine e_Mo_layer_10 (fun c2 => absurd c2 (Int32.not_lt.mpr g)) (fun _ => bad)
  · rw [if_neg (by rintro (q | q); exact nI_pos (by omega) q; exact nI_ge hj (by omega) q), nI_clamp (by omega)]
    have hlj : (lyb s)[j]? = some (lyb s)[j] := List.getElem?_eq_getElem hj
    refine tv_ct rfl (by decide +kernel) (by simp [Value.category]) (Nat.le_of_ble_eq_true rfl) ?_
    refine e_Mo_layer_0 rfl ?_
    refine e_Mo_layer_1 rfl ?_
    refine e_Mo_layer_2 (fun c1 => absurd c1 (nI_pos (by omega))) (fun c1 => ?_)
    refine e_Mo_layer_5 rfl ?_
    refine e_Mo_layer_6 rfl ?_
    refine e_Mo_layer_7 hm.1 rfl ?_
    refine e_Mo_layer_10 (fun _ => ?_) (fun c2 => absurd (nI_lt hj (by omega)) c2)
    refine e_Mo_layer_17  ?_
    refine e_Mo_layer_18  ?_
    refine e_Mo_layer_19  ?_
    refine e_Mo_layer_20 hm.1 (by decide) (c_Mo_fails hm) (kv ?_) xn
    rintro h2 ⟨hm2, f2⟩
    refine e_Mo_layer_23 (fun _ => ?_) (fun c1 => absurd rfl c1)
    refine e_Mo_layer_30 rfl ?_
    refine e_Mo_layer_31 hm2.1 rfl ?_
    refine e_Mo_layer_34 rfl ?_
    refine e_Mo_layer_35 (j) hm2.a6 rfl (md (a := 6) (show j < 2480 by omega)) mlen ?_
    exact e_Mo_layer_36 ⟨by rw [hss.2.2.2.1 j _ hlj, lb_at hlj], ⟨M, hm2, hss⟩, f2⟩
end
