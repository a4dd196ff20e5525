/-! the reference: entry, put, item, done, apply -/
/-- the layer begins with these bytes -/
def ly (M : mM) (bs : List Nat) : Prop := ∀ k c, bs[k]? = some c → M 6 k = nI c
/-- only the layer differs -/
def kl (M M' : mM) : Prop := ∀ b j, b ≠ 6 → M' b j = M b j
theorem kl.tr {M M1 M2 : mM} (h1 : kl M M1) (h2 : kl M1 M2) : kl M M2 := fun b j hb => (h2 b j hb).trans (h1 b j hb)
theorem kl.rf {M : mM} : kl M M := fun _ _ _ => rfl
theorem kl.p {M M' : mM} {r : Nat} {p : List Nat} (h : kl M M') (hp : mp M r p) : mp M' r p := hp.k (h _ _ (by decide)) (fun _ _ => h _ _ (by decide))
theorem kl.e {M M' : mM} {r : Nat} {f : tE} (h : kl M M') (hp : me M r f) : me M' r f := hp.k (h _ _ (by decide)) (fun _ _ => h _ _ (by decide)) (h _ _ (by decide)) (h _ _ (by decide)) (fun _ _ => h _ _ (by decide))
theorem kl.t {M M' : mM} {u : Nat} {es : List tE} (h : kl M M') (ht : mt M u es) : mt M' u es := ⟨(h _ _ (by decide)).trans ht.1, ht.2.1, fun i f hi => h.e (ht.2.2 i f hi)⟩
theorem ix16s (r w : Nat) (h : 16 ≤ w) : 16 * nI r + nI w - 16 = nI (16 * r + (w - 16)) := by
  rw [ix16, show nI (16 * r + w) - 16 = nI (16 * r + w - 16) from pk_sub (b := 16) (by omega), show 16 * r + w - 16 = 16 * r + (w - 16) by omega]
theorem ix20s (r w : Nat) (h : 3 ≤ w) : 20 * nI r + nI w - 3 = nI (20 * r + (w - 3)) := by
  rw [ix20, show nI (20 * r + w) - 3 = nI (20 * r + w - 3) from pk_sub (b := 3) (by omega), show 20 * r + w - 3 = 20 * r + (w - 3) by omega]
section
variable {G : tv_G} {h h' : tv_H} {th us x y w : Int32} {M : mM} {c z r t a b : Nat} {p q : List Nat} {es : List tE} {s : tT} {f g : tE} {bs cs : List Nat}
theorem c_Mo_entry {i : Int32} (hs : msr h th s) (ok : okX s) : tv_Ct G mm_Mo_entry [.ref 497, .int x, .int i, .int w] h 0 0 (rv (.int (ment s x i w).2) (fun h' => msr h' (nI (ment s x i w).1) s ∧ fr mS h h')) := by
  obtain ⟨M, hm, hss⟩ := hs
  unfold ment
  have ht2 := tn_lt x
  have bad : tv_Ev G mm_Mo_entry 21 [some (.ref 497), some (.int x), some (.int i), some (.int w), none, none] [] h 0 0 (rv (.int 0) (fun h' => msr h' (nI 1) s ∧ fr mS h h')) := by
    refine e_Mo_entry_21  ?_
    refine e_Mo_entry_22 (Nat.le_of_ble_eq_true rfl) ?_
    refine e_Mo_entry_24 rfl ?_
    refine e_Mo_entry_25 rfl ?_
    refine e_Mo_entry_27 (fun c1 => absurd rfl c1) (fun _ => ?_)
    refine e_Mo_entry_30  ?_
    refine e_Mo_entry_31  ?_
    refine e_Mo_entry_35 rfl ?_
    refine e_Mo_entry_37 (fun _ => ?_) (fun c1 => absurd rfl c1)
    refine e_Mo_entry_58  ?_
    refine e_Mo_entry_59  ?_
    refine e_Mo_entry_60 hm.1 (by decide) (c_Mo_fails hm) (kv ?_) xn
    rintro h2 ⟨hm2, f2⟩
    refine e_Mo_entry_63 (fun c1 => absurd c1 (by decide)) (fun _ => ?_)
    refine e_Mo_entry_66  ?_
    exact e_Mo_entry_67 ⟨rfl, ⟨M, hm2, hss⟩, f2⟩
  refine tv_ct rfl (by decide +kernel) (by simp [Value.category]) (Nat.le_of_ble_eq_true rfl) ?_
  refine e_Mo_entry_0 rfl ?_
  refine e_Mo_entry_1 (by decide) c_Mo_isTree (kp ?_) xn
  by_cases hx : it x
  · rw [if_pos hx]
    refine e_Mo_entry_4 (fun c1 => absurd c1 (by decide)) (fun _ => ?_)
    refine e_Mo_entry_7 rfl ?_
    refine e_Mo_entry_8 (fun c1 => ?_) (fun c1 => ?_)
    · rw [if_neg (show ¬ (it x ∧ ¬ w < 0 ∧ w ≤ 31) from fun q => q.2.1 c1)]
      exact bad
    refine e_Mo_entry_11 rfl ?_
    refine e_Mo_entry_12  ?_
    have h31 : (31 : Int32).toInt = 31 := by decide
    have h32 : (32 : Int32).toInt = 32 := by decide
    refine e_Mo_entry_14 (fun c2 => ?_) (fun c2 => ?_)
    · rw [if_neg (show ¬ (it x ∧ ¬ w < 0 ∧ w ≤ 31) from fun q => by
        have := q.2.2
        rw [Int32.le_iff_toInt_le] at this c2
        omega)]
      exact bad
    have c2 : w ≤ 31 := by
      rw [Int32.le_iff_toInt_le] at c2 ⊢
      omega
    rw [if_pos (show it x ∧ ¬ w < 0 ∧ w ≤ 31 from ⟨hx, c1, c2⟩)]
    obtain ⟨wn, hwn, rfl⟩ := nI_of2 (n := 31) (M := 31) rfl c1 c2
    have htM := hss.tree x
    have hl := htM.2.1
    have bad2 : tv_Ev G mm_Mo_entry 54 [some (.ref 497), some (.int x), some (.int i), some (.int (nI wn)), some (.int 1), none] [.int 0, .ref 497] h 0 0 (rv (.int 0) (fun h' => msr h' (nI 2) s ∧ fr mS h h')) := by
      refine e_Mo_entry_54  ?_
      refine e_Mo_entry_55  ?_
      refine e_Mo_entry_59  ?_
      refine e_Mo_entry_60 hm.1 (by decide) (c_Mo_fails hm) (kv ?_) xn
      rintro h2 ⟨hm2, f2⟩
      refine e_Mo_entry_63 (fun c1 => absurd c1 (by decide)) (fun _ => ?_)
      refine e_Mo_entry_66  ?_
      exact e_Mo_entry_67 ⟨rfl, ⟨M, hm2, hss⟩, f2⟩
    refine e_Mo_entry_17  ?_
    refine e_Mo_entry_18  ?_
    refine e_Mo_entry_22 (Nat.le_of_ble_eq_true rfl) ?_
    refine e_Mo_entry_24 rfl ?_
    refine e_Mo_entry_25 rfl ?_
    refine e_Mo_entry_27 (fun _ => ?_) (fun c1 => absurd c1 (by decide))
    refine e_Mo_entry_34  ?_
    refine e_Mo_entry_35 rfl ?_
    refine e_Mo_entry_37 (fun c1 => absurd c1 (by decide)) (fun _ => ?_)
    refine e_Mo_entry_40 rfl ?_
    rcases pk_ix i (n := (gt s x).length) (by omega) with g | g | ⟨j, hj, rfl⟩
    · rw [if_pos (Or.inl g)]
      refine e_Mo_entry_41 (fun _ => bad2) (fun c3 => absurd g c3)
    · rw [if_pos (Or.inr g)]
      refine e_Mo_entry_41 (fun _ => bad2) (fun c3 => ?_)
      refine e_Mo_entry_44 rfl ?_
      refine e_Mo_entry_45 rfl ?_
      refine e_Mo_entry_46 hm.1 rfl ?_
      refine e_Mo_entry_49 rfl ?_
      refine e_Mo_entry_50 (tn x) hm.a2 (tn_x hx) (md (a := 2) (show tn x < 3 by omega)) mlen ?_
      rw [htM.1]
      refine e_Mo_entry_51 (fun c4 => absurd c4 (Int32.not_lt.mpr g)) (fun _ => bad2)
    · have hei : (gt s x)[j]? = some (gt s x)[j] := List.getElem?_eq_getElem hj
      have hme := htM.2.2 j _ hei
      have oj := (ok.tree x).1 _ (List.getElem_mem hj)
      have hp2 := hme.1.2.1
      have hc2 := hme.2.2.2.1
      rw [if_neg (by rintro (q | q); exact nI_pos (by omega) q; exact nI_ge hj (by omega) q), nI_clamp (by omega), nI_clamp (by omega), hei]
      refine e_Mo_entry_41 (fun c3 => absurd c3 (nI_pos (by omega))) (fun c3 => ?_)
      refine e_Mo_entry_44 rfl ?_
      refine e_Mo_entry_45 rfl ?_
      refine e_Mo_entry_46 hm.1 rfl ?_
      refine e_Mo_entry_49 rfl ?_
      refine e_Mo_entry_50 (tn x) hm.a2 (tn_x hx) (md (a := 2) (show tn x < 3 by omega)) mlen ?_
      rw [htM.1]
      refine e_Mo_entry_51 (fun _ => ?_) (fun c4 => absurd (nI_lt hj (by omega)) c4)
      refine e_Mo_entry_58  ?_
      refine e_Mo_entry_59  ?_
      refine e_Mo_entry_60 hm.1 (by decide) (c_Mo_fails hm) (kv ?_) xn
      rintro h2 ⟨hm2, f2⟩
      have P : msr h2 (nI 0) s ∧ fr mS h h2 := ⟨⟨M, hm2, hss⟩, f2⟩
      refine e_Mo_entry_63 (fun _ => ?_) (fun c1 => absurd rfl c1)
      have e40 : 40 * x + nI j = nI (40 * tn x + j) := by
        have := ix40 (tn x) j
        rw [← tn_x hx] at this
        exact this
      refine e_Mo_entry_68  ?_
      refine e_Mo_entry_70 rfl ?_
      refine e_Mo_entry_71  ?_
      refine e_Mo_entry_72 rfl ?_
      refine e_Mo_entry_73  ?_
      rw [e40]
      refine e_Mo_entry_74 (Nat.le_of_ble_eq_true rfl) ?_
      refine e_Mo_entry_76 rfl ?_
      refine e_Mo_entry_77  ?_
      show tv_Ev G mm_Mo_entry 78 _ _ h2 0 0 (rv (.int (tl (gt s x)[j].1 (gt s x)[j].2.1 (gt s x)[j].2.2 wn)) (fun h' => msr h' (nI 0) s ∧ fr mS h h'))
      unfold tl
      refine e_Mo_entry_78 (fun c4 => ?_) (fun c4 => ?_)
      · have c4 := (nI_leI (a := 3) (by decide) (by omega)).mp c4
        refine e_Mo_entry_132 rfl ?_
        refine e_Mo_entry_133  ?_
        refine e_Mo_entry_135 (fun c5 => ?_) (fun c5 => ?_)
        · have c5 := (nI_leI (a := 16) (by decide) (by omega)).mp c5
          rw [if_pos c5]
          have no : (gt s x)[j].2.2.length ≤ wn - 16 → tv_Ev G mm_Mo_entry 213 [some (.ref 497), some (.int x), some (.int (nI j)), some (.int (nI wn)), some (.int 1), some (.int (nI (40 * tn x + j)))] [] h2 0 0 (rv (.int (by_ (gt s x)[j].2.2 (wn - 16))) (fun h' => msr h' (nI 0) s ∧ fr mS h h')) := by
            intro hge
            refine e_Mo_entry_213  ?_
            exact e_Mo_entry_214 ⟨by rw [by_ge hge], P⟩
          refine e_Mo_entry_170 rfl ?_
          refine e_Mo_entry_171 hm2.1 rfl ?_
          refine e_Mo_entry_174 rfl ?_
          refine e_Mo_entry_176 (40 * tn x + j) hm2.a3 rfl (md (a := 3) (show 40 * tn x + j < 120 by omega)) mlen ?_
          refine e_Mo_entry_177  ?_
          rw [hme.2.1]
          refine e_Mo_entry_178 (fun c6 => ?_) (fun c6 => ?_)
          · refine no ?_
            rcases oj.2.1 with ⟨-, w1⟩ | w1
            · rw [w1]; exact Nat.zero_le _
            · exact absurd w1 c6
          · refine e_Mo_entry_181 rfl ?_
            refine e_Mo_entry_182  ?_
            refine e_Mo_entry_184  ?_
            refine e_Mo_entry_185 rfl ?_
            refine e_Mo_entry_186 hm2.1 rfl ?_
            refine e_Mo_entry_189 rfl ?_
            refine e_Mo_entry_191 (40 * tn x + j) hm2.a4 rfl (md (a := 4) (show 40 * tn x + j < 120 by omega)) mlen ?_
            rw [hme.2.2.1, show nI wn - 16 = nI (wn - 16) from pk_sub (b := 16) c5]
            refine e_Mo_entry_192 (fun c7 => no ((nI_leI (by omega) (by omega)).mp c7)) (fun c7 => ?_)
            have c7 : wn - 16 < (gt s x)[j].2.2.length := by
              rcases Nat.lt_or_ge (wn - 16) (gt s x)[j].2.2.length with q | q
              · exact q
              · exact absurd (nI_le q (by omega)) c7
            have hbk : (gt s x)[j].2.2[wn - 16]? = some (gt s x)[j].2.2[wn - 16] := List.getElem?_eq_getElem c7
            refine e_Mo_entry_195 rfl ?_
            refine e_Mo_entry_196 hm2.1 rfl ?_
            refine e_Mo_entry_199  ?_
            refine e_Mo_entry_201 rfl ?_
            refine e_Mo_entry_203  ?_
            refine e_Mo_entry_204 rfl ?_
            refine e_Mo_entry_205  ?_
            refine e_Mo_entry_206  ?_
            refine e_Mo_entry_208  ?_
            refine e_Mo_entry_209 (16 * (40 * tn x + j) + (wn - 16)) hm2.a5 (ix16s _ _ c5) (md (a := 5) (show 16 * (40 * tn x + j) + (wn - 16) < 1920 by omega)) mlen ?_
            refine e_Mo_entry_210  ?_
            exact e_Mo_entry_214 ⟨by rw [hme.2.2.2.2 _ _ hbk, by_at hbk], P⟩
        · have c5 : wn < 16 := by
            rcases Nat.lt_or_ge wn 16 with q | q
            · exact q
            · exact absurd (nI_le (a := 16) q (by omega)) c5
          rw [if_neg (by omega), if_pos c4]
          refine e_Mo_entry_138 rfl ?_
          refine e_Mo_entry_139  ?_
          refine e_Mo_entry_140  ?_
          refine e_Mo_entry_141 rfl ?_
          refine e_Mo_entry_142 hm2.1 rfl ?_
          refine e_Mo_entry_145 rfl ?_
          refine e_Mo_entry_147 (40 * tn x + j) hm2.a1 rfl (md (a := 1) (show 40 * tn x + j < 124 by omega)) mlen ?_
          rw [hme.1.1, show nI wn - 3 = nI (wn - 3) from pk_sub (b := 3) c4]
          refine e_Mo_entry_148 (fun c6 => ?_) (fun c6 => ?_)
          · have c6 := (nI_leI (by omega) (by omega)).mp c6
            refine e_Mo_entry_168  ?_
            exact e_Mo_entry_169 ⟨by rw [sg_ge c6], P⟩
          · have c6 : wn - 3 < (gt s x)[j].1.length := by
              rcases Nat.lt_or_ge (wn - 3) (gt s x)[j].1.length with q | q
              · exact q
              · exact absurd (nI_le q (by omega)) c6
            have hpk : (gt s x)[j].1[wn - 3]? = some (gt s x)[j].1[wn - 3] := List.getElem?_eq_getElem c6
            refine e_Mo_entry_151 rfl ?_
            refine e_Mo_entry_152 hm2.1 rfl ?_
            refine e_Mo_entry_155  ?_
            refine e_Mo_entry_157 rfl ?_
            refine e_Mo_entry_159  ?_
            refine e_Mo_entry_160 rfl ?_
            refine e_Mo_entry_161  ?_
            refine e_Mo_entry_162  ?_
            refine e_Mo_entry_163  ?_
            refine e_Mo_entry_164 (20 * (40 * tn x + j) + (wn - 3)) hm2.a0 (ix20s _ _ c4) (md (a := 0) (show 20 * (40 * tn x + j) + (wn - 3) < 2480 by omega)) mlen ?_
            refine e_Mo_entry_165  ?_
            exact e_Mo_entry_169 ⟨by rw [hme.1.2.2 _ _ hpk, sg_at hpk, s8_lo (oj.s _ (List.getElem_mem c6))], P⟩
      · have c4 : wn < 3 := by
          rcases Nat.lt_or_ge wn 3 with q | q
          · exact q
          · exact absurd (nI_le (a := 3) q (by omega)) c4
        rw [if_neg (by omega), if_neg (by omega)]
        refine e_Mo_entry_81 rfl ?_
        refine e_Mo_entry_82 (fun c5 => ?_) (fun c5 => ?_)
        · have c5 : wn ≠ 0 := fun e => c5 (by rw [e]; rfl)
          rw [if_neg c5]
          refine e_Mo_entry_95 rfl ?_
          refine e_Mo_entry_96  ?_
          refine e_Mo_entry_97 (fun c6 => ?_) (fun c6 => ?_)
          · have c6 : wn ≠ 1 := fun e => c6 (by rw [e]; rfl)
            rw [if_neg c6]
            refine e_Mo_entry_109 rfl ?_
            refine e_Mo_entry_110 hm2.1 rfl ?_
            refine e_Mo_entry_113 rfl ?_
            refine e_Mo_entry_115 (40 * tn x + j) hm2.a3 rfl (md (a := 3) (show 40 * tn x + j < 120 by omega)) mlen ?_
            refine e_Mo_entry_116  ?_
            rw [hme.2.1]
            refine e_Mo_entry_117 (fun c7 => ?_) (fun c7 => ?_)
            · refine e_Mo_entry_130  ?_
              refine e_Mo_entry_131 ⟨?_, P⟩
              rcases oj.2.1 with ⟨-, w1⟩ | w1
              · rw [w1]; rfl
              · exact absurd w1 c7
            · refine e_Mo_entry_120 rfl ?_
              refine e_Mo_entry_121 hm2.1 rfl ?_
              refine e_Mo_entry_124 rfl ?_
              refine e_Mo_entry_126 (40 * tn x + j) hm2.a4 rfl (md (a := 4) (show 40 * tn x + j < 120 by omega)) mlen ?_
              refine e_Mo_entry_127  ?_
              exact e_Mo_entry_131 ⟨by rw [hme.2.2.1], P⟩
          · have c6 : wn = 1 := (nI_eq (b := 1) (by omega) (by decide)).mp c6
            rw [if_pos c6]
            refine e_Mo_entry_100 rfl ?_
            refine e_Mo_entry_101 rfl ?_
            refine e_Mo_entry_103 hm2.1 (by decide) (c_Mo_names hm2 (a := 40 * tn x + j) (by omega) hme.1 oj.s) (kp ?_) xn
            refine e_Mo_entry_106  ?_
            exact e_Mo_entry_131 ⟨by unfold nms; rw [if_neg oj.n], P⟩
        · have c5 : wn = 0 := (nI_eq (b := 0) (by omega) (by decide)).mp c5
          rw [if_pos c5]
          refine e_Mo_entry_85 rfl ?_
          refine e_Mo_entry_86 hm2.1 rfl ?_
          refine e_Mo_entry_89 rfl ?_
          refine e_Mo_entry_91 (40 * tn x + j) hm2.a3 rfl (md (a := 3) (show 40 * tn x + j < 120 by omega)) mlen ?_
          refine e_Mo_entry_92  ?_
          exact e_Mo_entry_131 ⟨by rw [hme.2.1], P⟩
  · rw [if_neg hx, if_neg (show ¬ (it x ∧ ¬ w < 0 ∧ w ≤ 31) from fun q => hx q.1)]
    refine e_Mo_entry_4 (fun _ => ?_) (fun c1 => absurd rfl c1)
    exact bad
theorem c_Mo_put {v : Nat} (hm : mh h th (nI bs.length) M) (hl : ly M bs) (hn : bs.length < 2480) : tv_Ct G mm_Mo_put [.ref 497, .int (nI v)] h 0 0 (rn (fun h' => (∃ M', mh h' th (nI (bs ++ [v]).length) M' ∧ ly M' (bs ++ [v]) ∧ kl M M') ∧ fr mS h h')) := by
  refine tv_ct rfl (by decide +kernel) (by simp [Value.category]) (Nat.le_of_ble_eq_true rfl) ?_
  refine e_Mo_put_0 rfl ?_
  refine e_Mo_put_1 hm.1 rfl ?_
  refine e_Mo_put_4 rfl ?_
  refine e_Mo_put_5 hm.1 rfl ?_
  refine e_Mo_put_8 rfl ?_
  refine e_Mo_put_9 (bs.length) hm.a6 rfl (ml (a := 6) (show bs.length < 2480 by omega)) mlen ?_
  have hm2 := hm.s6 (i := bs.length) (v := nI v)
  have hm3 := hm2.obj th (nI bs.length + 1)
  refine e_Mo_put_10 rfl ?_
  refine e_Mo_put_11 rfl ?_
  refine e_Mo_put_12 hm2.1 rfl ?_
  refine e_Mo_put_15  ?_
  refine e_Mo_put_16  ?_
  refine e_Mo_put_17 hm2.1 (Nat.le_of_ble_eq_true rfl) ?_
  refine e_Mo_put_20 ⟨rfl, ⟨mu M 6 bs.length (nI v), ?_, fun k c hk => ?_, fun b j hb => mu_ne (fun q => hb q.1)⟩, (fr.set ⟨by omega, by omega⟩).tr (fr.set ⟨by omega, by omega⟩)⟩
  · rw [List.length_append, List.length_singleton, nI_succ]
    exact hm3
  · rcases Nat.lt_or_ge k bs.length with q | q
    · rw [List.getElem?_append_left q] at hk
      rw [mu_ne (by omega)]
      exact hl k c hk
    · rw [List.getElem?_append_right q] at hk
      have hk0 : k = bs.length := by
        have := (List.getElem?_eq_some_iff.mp hk).1
        rw [List.length_singleton] at this
        omega
      subst hk0
      rw [Nat.sub_self] at hk
      rw [mu_at, ← Option.some.inj hk]
theorem l_Mo_item1 {kk : Int32} {Q : tv_R → tv_H → Prop} (ha : a < 120) (hl0 : bs.length + p.length ≤ 2480) (hp : mp M a p) (hk : ∀ hc M', mh hc th (nI (bs ++ p).length) M' → ly M' (bs ++ p) → kl M M' → fr mS h hc → tv_Ev G mm_Mo_item 48 [some (.ref 497), some (.int kk), some (.int (nI a)), some (.int (nI p.length)), none] [] hc c z Q) : ∀ j k, j + k = p.length → ∀ hc M', mh hc th (nI (bs ++ p.take k).length) M' → ly M' (bs ++ p.take k) → kl M M' → fr mS h hc → tv_Ev G mm_Mo_item 17 [some (.ref 497), some (.int kk), some (.int (nI a)), some (.int (nI k)), none] [] hc c z Q := by
  have hp2 := hp.2.1
  intro j
  induction j with
  | zero =>
    intro k hk0 hc M' hm hly hkl hf
    have hk0 : k = p.length := by omega
    subst hk0
    rw [List.take_length] at hm hly
    refine e_Mo_item_17 rfl ?_
    refine e_Mo_item_18 rfl ?_
    refine e_Mo_item_19 hm.1 rfl ?_
    refine e_Mo_item_22 rfl ?_
    refine e_Mo_item_23 (a) hm.a1 rfl (md (a := 1) (show a < 124 by omega)) mlen ?_
    rw [(hkl.p hp).1]
    refine e_Mo_item_24 (fun _ => ?_) (fun c1 => absurd (nI_le (Nat.le_refl _) (by omega)) c1)
    exact hk hc M' hm hly hkl hf
  | succ j ih =>
    intro k hk0 hc M' hm hly hkl hf
    have hpk : p[k]? = some p[k] := List.getElem?_eq_getElem (by omega)
    refine e_Mo_item_17 rfl ?_
    refine e_Mo_item_18 rfl ?_
    refine e_Mo_item_19 hm.1 rfl ?_
    refine e_Mo_item_22 rfl ?_
    refine e_Mo_item_23 (a) hm.a1 rfl (md (a := 1) (show a < 124 by omega)) mlen ?_
    rw [(hkl.p hp).1]
    refine e_Mo_item_24 (fun c1 => absurd c1 (nI_ge (by omega) (by omega))) (fun _ => ?_)
    refine e_Mo_item_27 rfl ?_
    refine e_Mo_item_28 rfl ?_
    refine e_Mo_item_29 hm.1 rfl ?_
    refine e_Mo_item_32  ?_
    refine e_Mo_item_34 rfl ?_
    refine e_Mo_item_35  ?_
    refine e_Mo_item_36 rfl ?_
    refine e_Mo_item_37  ?_
    refine e_Mo_item_38 (20 * a + k) hm.a0 (ix20 _ _) (md (a := 0) (show 20 * a + k < 2480 by omega)) mlen ?_
    rw [(hkl.p hp).2.2 k _ hpk]
    refine e_Mo_item_39 hm.1 (by decide) (c_Mo_put hm hly (by rw [List.length_append, List.length_take]; omega)) (kn ?_) xn
    rintro hd ⟨⟨Md, hmd, lyd, kd⟩, fd⟩
    rw [List.append_assoc, ← take_g hpk] at hmd lyd
    refine e_Mo_item_42 rfl ?_
    refine e_Mo_item_45  ?_
    have := ih (k + 1) (by omega) hd Md hmd lyd (hkl.tr kd) (hf.tr fd)
    rw [nI_succ] at this
    exact this
theorem l_Mo_item2 {kk : Int32} {ds : List Nat} {Q : tv_R → tv_H → Prop} (ha : a < 120) (hl0 : bs.length + ds.length ≤ 2480) (hd16 : ds.length ≤ 16) (hp : ∀ k c, ds[k]? = some c → M 5 (16 * a + k) = nI c) (hk : ∀ hc M', mh hc th (nI (bs ++ ds).length) M' → ly M' (bs ++ ds) → kl M M' → fr mS h hc → tv_Ev G mm_Mo_item 105 [some (.ref 497), some (.int kk), some (.int (nI a)), some (.int (nI ds.length)), some (.int (nI ds.length))] [] hc c z Q) : ∀ j k, j + k = ds.length → ∀ hc M', mh hc th (nI (bs ++ ds.take k).length) M' → ly M' (bs ++ ds.take k) → kl M M' → fr mS h hc → tv_Ev G mm_Mo_item 77 [some (.ref 497), some (.int kk), some (.int (nI a)), some (.int (nI ds.length)), some (.int (nI k))] [] hc c z Q := by
  intro j
  induction j with
  | zero =>
    intro k hk0 hc M' hm hly hkl hf
    have hk0 : k = ds.length := by omega
    subst hk0
    rw [List.take_length] at hm hly
    refine e_Mo_item_77 rfl ?_
    refine e_Mo_item_79 rfl ?_
    refine e_Mo_item_80 (fun _ => ?_) (fun c1 => absurd (nI_le (Nat.le_refl _) (by omega)) c1)
    exact hk hc M' hm hly hkl hf
  | succ j ih =>
    intro k hk0 hc M' hm hly hkl hf
    have hpk : ds[k]? = some ds[k] := List.getElem?_eq_getElem (by omega)
    refine e_Mo_item_77 rfl ?_
    refine e_Mo_item_79 rfl ?_
    refine e_Mo_item_80 (fun c1 => absurd c1 (nI_ge (by omega) (by omega))) (fun _ => ?_)
    refine e_Mo_item_83 rfl ?_
    refine e_Mo_item_84 rfl ?_
    refine e_Mo_item_85 hm.1 rfl ?_
    refine e_Mo_item_88  ?_
    refine e_Mo_item_90 rfl ?_
    refine e_Mo_item_91  ?_
    refine e_Mo_item_92 rfl ?_
    refine e_Mo_item_94  ?_
    refine e_Mo_item_95 (16 * a + k) hm.a5 (ix16 _ _) (md (a := 5) (show 16 * a + k < 1920 by omega)) mlen ?_
    rw [(hkl _ _ (by decide)).trans (hp k _ hpk)]
    refine e_Mo_item_96 hm.1 (by decide) (c_Mo_put hm hly (by rw [List.length_append, List.length_take]; omega)) (kn ?_) xn
    rintro hd ⟨⟨Md, hmd, lyd, kd⟩, fd⟩
    rw [List.append_assoc, ← take_g hpk] at hmd lyd
    refine e_Mo_item_99 rfl ?_
    refine e_Mo_item_102  ?_
    have := ih (k + 1) (by omega) hd Md hmd lyd (hkl.tr kd) (hf.tr fd)
    rw [nI_succ] at this
    exact this
theorem c_Mo_item {v : Nat} (hv : v < 128) (hm : mh h th (nI bs.length) M) (hl : ly M bs) (ha : a < 120) (he : me M a f) (hn : bs.length + (4 + f.1.length + (if v = 2 then f.2.2 else []).length) ≤ 2480) : tv_Ct G mm_Mo_item [.ref 497, .int (nI v), .int (nI a)] h 0 0 (rn (fun h' => (∃ M', mh h' th (nI (bs ++ itb (v, f.1, if v = 2 then f.2.2 else [])).length) M' ∧ ly M' (bs ++ itb (v, f.1, if v = 2 then f.2.2 else [])) ∧ kl M M') ∧ fr mS h h')) := by
  have hp2 := he.1.2.1
  have hc2 := he.2.2.2.1
  have main : ∀ ds : List Nat, ds.length ≤ 16 → (∀ k c, ds[k]? = some c → M 5 (16 * a + k) = nI c) → bs.length + (4 + f.1.length + ds.length) ≤ 2480 → ∀ hc M' u, mh hc th (nI (bs ++ [v] ++ [f.1.length] ++ f.1).length) M' → ly M' (bs ++ [v] ++ [f.1.length] ++ f.1) → kl M M' → fr mS h hc → tv_Ev G mm_Mo_item 63 [some (.ref 497), some (.int (nI v)), some (.int (nI a)), u, none] [.int (nI ds.length)] hc 0 0 (rn (fun h' => (∃ M', mh h' th (nI (bs ++ itb (v, f.1, ds)).length) M' ∧ ly M' (bs ++ itb (v, f.1, ds)) ∧ kl M M') ∧ fr mS h h')) := by
    intro ds hd16 hds hn hc M' u hm5 l5 k5 f5
    refine e_Mo_item_63 (Nat.le_of_ble_eq_true rfl) ?_
    refine e_Mo_item_64 rfl ?_
    refine e_Mo_item_65 rfl ?_
    refine e_Mo_item_66 hm5.1 (by decide) (c_Mo_put hm5 l5 (by simp; omega)) (kn ?_) xn
    rintro h6 ⟨⟨M6, hm6, l6, k6⟩, f6⟩
    refine e_Mo_item_69 rfl ?_
    refine e_Mo_item_70  ?_
    refine e_Mo_item_71 hm6.1 (by decide) (c_Mo_put (v := 0) hm6 l6 (by simp; omega)) (kn ?_) xn
    rintro h7 ⟨⟨M7, hm7, l7, k7⟩, f7⟩
    refine e_Mo_item_74  ?_
    refine e_Mo_item_75 (Nat.le_of_ble_eq_true rfl) ?_
    have eb : bs ++ [v] ++ [f.1.length] ++ f.1 ++ [ds.length] ++ [0] ++ ds = bs ++ itb (v, f.1, ds) := by
      unfold itb
      simp
    have kk7 : kl M M7 := (k5.tr k6).tr k7
    refine l_Mo_item2 (bs := bs ++ [v] ++ [f.1.length] ++ f.1 ++ [ds.length] ++ [0]) (M := M7) (h := h7) ha (by simp; omega) hd16 (fun k c hk => (kk7 _ _ (by decide)).trans (hds k c hk)) (fun h8 M8 hm8 l8 k8 f8 => ?_) ds.length 0 rfl h7 M7 (by rw [List.take_zero, List.append_nil]; exact hm7) (by rw [List.take_zero, List.append_nil]; exact l7) kl.rf fr.rf
    rw [eb] at hm8 l8
    exact e_Mo_item_105 ⟨rfl, ⟨M8, hm8, l8, kk7.tr k8⟩, ((f5.tr f6).tr f7).tr f8⟩
  refine tv_ct rfl (by decide +kernel) (by simp [Value.category]) (Nat.le_of_ble_eq_true rfl) ?_
  refine e_Mo_item_0 rfl ?_
  refine e_Mo_item_1 rfl ?_
  refine e_Mo_item_2 hm.1 (by decide) (c_Mo_put hm hl (by omega)) (kn ?_) xn
  rintro h3 ⟨⟨M3, hm3, l3, k3⟩, f3⟩
  refine e_Mo_item_5 rfl ?_
  refine e_Mo_item_6 rfl ?_
  refine e_Mo_item_7 hm3.1 rfl ?_
  refine e_Mo_item_10 rfl ?_
  refine e_Mo_item_11 (a) hm3.a1 rfl (md (a := 1) (show a < 124 by omega)) mlen ?_
  rw [(k3.p he.1).1]
  refine e_Mo_item_12 hm3.1 (by decide) (c_Mo_put hm3 l3 (by simp; omega)) (kn ?_) xn
  rintro h4 ⟨⟨M4, hm4, l4, k4⟩, f4⟩
  refine e_Mo_item_15  ?_
  refine e_Mo_item_16 (Nat.le_of_ble_eq_true rfl) ?_
  refine l_Mo_item1 (bs := bs ++ [v] ++ [f.1.length]) (M := M4) (h := h4) ha (by simp; omega) ((k3.tr k4).p he.1) (fun h5 M5 hm5 l5 k5 f5 => ?_) f.1.length 0 rfl h4 M4 (by rw [List.take_zero, List.append_nil]; exact hm4) (by rw [List.take_zero, List.append_nil]; exact l4) kl.rf fr.rf
  have kk5 : kl M M5 := (k3.tr k4).tr k5
  refine e_Mo_item_48 rfl ?_
  refine e_Mo_item_49  ?_
  refine e_Mo_item_50 (fun c1 => ?_) (fun c1 => ?_)
  · have hv2 : v ≠ 2 := fun q => c1 (by rw [q]; rfl)
    rw [if_neg hv2] at hn ⊢
    refine e_Mo_item_62  ?_
    exact main [] (Nat.zero_le _) (fun k c hk => by cases hk) hn h5 M5 _ hm5 l5 kk5 ((f3.tr f4).tr f5)
  · have hv2 : v = 2 := (nI_eq (b := 2) (by omega) (by decide)).mp c1
    rw [if_pos hv2] at hn ⊢
    refine e_Mo_item_53 rfl ?_
    refine e_Mo_item_54 hm5.1 rfl ?_
    refine e_Mo_item_57 rfl ?_
    refine e_Mo_item_58 (a) hm5.a4 rfl (md (a := 4) (show a < 120 by omega)) mlen ?_
    refine e_Mo_item_59  ?_
    rw [(kk5.e he).2.2.1]
    exact main f.2.2 hc2 he.2.2.2.2 hn h5 M5 _ hm5 l5 kk5 ((f3.tr f4).tr f5)
end
