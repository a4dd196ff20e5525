/-! a move: both ways are one -/
section
variable {es : List tE} {q1 q2 : List Nat} {f g x y : tE} {i : Nat}
theorem csh_q1 (ok : okT es) (hc : csh es q1 q2) : ∃ f ∈ es, f.1 = q1 ∧ wf q1 = true := by
  cases hf : fx es q1 with
  | none => exact absurd hf hc.1
  | some i =>
    obtain ⟨e, he, h1⟩ := fx_lt hf
    exact ⟨e, List.mem_of_getElem? he, h1, by rw [← h1]; exact (ok.e (List.mem_of_getElem? he)).1⟩
theorem mv_wf (ok : okT es) (w2 : wf q2 = true) (hc : csh es q1 q2) (hy : y ∈ es) (hm : mvd q1 y) : wf (mvp q1 q2 y).1 = true := by
  obtain ⟨f, -, -, w1⟩ := csh_q1 ok hc
  obtain ⟨t, ht, htt⟩ := mvd_app hm
  rw [mvp_app hm ht]
  show wf (q2 ++ t) = true
  obtain ⟨m1, a1, b1, -⟩ := wf_wa w1
  obtain ⟨m2, a2, b2, -⟩ := wf_wa w2
  obtain ⟨my, ay, by_', -⟩ := wf_wa (ok.e hy).1
  rw [ht, wa_app, a1] at ay
  have ay : wa m1 t = some my := ay
  have hn1 := wf_ne w1
  have hn2 := wf_ne w2
  have hyn := (ok.e hy).n
  have e1 : wa 0 (q2 ++ t) = wa m2 t := by rw [wa_app, a2]; rfl
  have hcnt : nms (q2 ++ t) ≤ 4 := by
    have h5 := hc.2.2.2.2
    have hdp : nms y.1 ≤ dpk q1 es := by
      rcases hm with w | w
      · rw [w]; exact dpk_ge es
      · exact dpk_mem es hy w
    have hdq := dpk_ge (q := q1) es
    rw [nms_c hyn, ht, List.count_append] at hdp
    rw [nms_c hn1] at hdq h5
    rw [nms_c hn2] at h5
    rw [nms_c (by intro e; exact hn2 (List.append_eq_nil_iff.mp e).1), List.count_append]
    omega
  rcases htt with rfl | ⟨t', rfl⟩
  · exact wa_wf (m := m2) (by rw [e1]; rfl) b2 hcnt
  · have e2 : wa m1 (47 :: t') = wa 0 t' := by rw [wa, if_pos ⟨rfl, b1⟩]
    have e3 : wa m2 (47 :: t') = wa 0 t' := by rw [wa, if_pos ⟨rfl, b2⟩]
    exact wa_wf (m := my) (by rw [e1, e3, ← e2]; exact ay) by_' hcnt
theorem mv_hlen (ok : okT es) (w2 : wf q2 = true) (hc : csh es q1 q2) : ∀ f ∈ es, f.1 = q1 ∨ bw f.1 q1 → f.1.length - q1.length + q2.length ≤ 19 := by
  intro f hf hm
  have h1 := wf_len (mv_wf ok w2 hc hf hm)
  obtain ⟨t, ht, -⟩ := mvd_app hm
  rw [mvp_app hm ht] at h1
  have h1 : (q2 ++ t).length ≤ 19 := h1
  rw [List.length_append] at h1
  rw [ht, List.length_append]
  omega
theorem mv_no (ok : okT es) (w2 : wf q2 = true) (hc : csh es q1 q2) (hx : x ∈ es) (hnx : ¬ mvd q1 x) (hy : y ∈ es) (hmy : mvd q1 y) : x.1 ≠ (mvp q1 q2 y).1 := by
  intro e
  obtain ⟨t, ht, htt⟩ := mvd_app hmy
  rw [mvp_app hmy ht] at e
  have e : x.1 = q2 ++ t := e
  have hn := (fx_none ok.2.1).mp hc.2.1
  rcases htt with rfl | ⟨t', rfl⟩
  · rw [List.append_nil] at e
    exact hn x hx e
  · obtain ⟨g, hg, g1, -⟩ := ok.above hx (wf_ne w2) (bw_iff.mpr ⟨t', e⟩)
    exact hn g hg g1
theorem mv_inj (ok : okT es) (w2 : wf q2 = true) (hc : csh es q1 q2) (hx : x ∈ es) (hy : y ∈ es) (e : (mvp q1 q2 x).1 = (mvp q1 q2 y).1) : x = y := by
  by_cases h1 : mvd q1 x
  · by_cases h2 : mvd q1 y
    · obtain ⟨t, ht, -⟩ := mvd_app h1
      obtain ⟨t2, ht2, -⟩ := mvd_app h2
      rw [mvp_app h1 ht, mvp_app h2 ht2] at e
      have e : q2 ++ t = q2 ++ t2 := e
      have e := List.append_cancel_left e
      exact srt_inj ok.2.1 hx hy (by rw [ht, ht2, e])
    · rw [mvp_no h2] at e
      exact absurd e.symm (mv_no ok w2 hc hy h2 hx h1)
  · by_cases h2 : mvd q1 y
    · rw [mvp_no h1] at e
      exact absurd e (mv_no ok w2 hc hx h1 hy h2)
    · rw [mvp_no h1, mvp_no h2] at e
      exact srt_inj ok.2.1 hx hy e
theorem mv_nodup (ok : okT es) (w2 : wf q2 = true) (hc : csh es q1 q2) : ((es.map (mvp q1 q2)).map Prod.fst).Nodup := by
  rw [List.map_map]
  have h1 : es.Pairwise (fun a b => a ≠ b) := ok.2.1.imp (fun {a b} h e => by rw [e] at h; exact lt_irr h)
  refine List.pairwise_map.mpr ?_
  have h2 : es.Pairwise (fun a b => a ∈ es ∧ b ∈ es ∧ a ≠ b) := by
    rw [List.pairwise_iff_getElem] at h1 ⊢
    intro i j hi hj hij
    exact ⟨List.getElem_mem hi, List.getElem_mem hj, h1 i j hi hj hij⟩
  exact h2.imp (fun {a b} h e => h.2.2 (mv_inj ok w2 hc h.1 h.2.1 e))
theorem sft_mem : x ∈ sft q1 q2 es ↔ ∃ y ∈ es, x = mvp q1 q2 y := by
  unfold sft
  rw [(sn_mem _ _).mem_iff, List.mem_map]
  exact ⟨fun ⟨y, h1, h2⟩ => ⟨y, h1, h2.symm⟩, fun ⟨y, h1, h2⟩ => ⟨y, h1, h2.symm⟩⟩
theorem sft_srt (ok : okT es) (w2 : wf q2 = true) (hc : csh es q1 q2) : srt (sft q1 q2 es) := by
  have h := (sn_srt (mv_nodup ok w2 hc) es.length (by rw [List.length_map]; exact Nat.le_refl _)).1
  rw [List.take_of_length_le (by rw [sn_len, List.length_map]; exact Nat.le_refl _)] at h
  exact h
theorem rmv_fx (ok : okT es) (w2 : wf q2 = true) (hc : csh es q1 q2) (hs : srt (rmv q1 q2 es i)) (hi : es[i]? = some f) (hm : mvd q1 f) : fx (rmv q1 q2 es i) (mvp q1 q2 f).1 = none := by
  have hfm := List.mem_of_getElem? hi
  refine (fx_none hs).mpr (fun x hx e => ?_)
  rcases (rmv_mem i).mp hx with ⟨a, b⟩ | ⟨y, hy, a, b⟩
  · exact mv_no ok w2 hc a b hfm hm e
  · rw [b] at e
    have hyf := mv_inj ok w2 hc (List.mem_of_mem_take hy) hfm e
    subst hyf
    obtain ⟨k, hk⟩ := List.mem_iff_getElem?.mp hy
    have hkl := (List.getElem?_eq_some_iff.mp hk).1
    rw [List.length_take] at hkl
    rw [List.getElem?_take_of_lt (by omega)] at hk
    have := idx_srt ok.2.1 hk hi (by omega)
    exact lt_irr this
theorem rmv_srt (ok : okT es) (w2 : wf q2 = true) (hc : csh es q1 q2) : ∀ i, i ≤ es.length → srt (rmv q1 q2 es i) := by
  intro i
  induction i with
  | zero => intro _; exact dr_srt ok.2.1
  | succ i ih =>
    intro hi
    have hei : es[i]? = some es[i] := List.getElem?_eq_getElem (by omega)
    have hs := ih (by omega)
    rw [rmv_s hei]
    by_cases h : mvd q1 es[i]
    · rw [if_pos h]
      exact iat_srt hs (rmv_fx ok w2 hc hs hei h)
    · rw [if_neg h]
      exact hs
theorem rmv_sft (ok : okT es) (w2 : wf q2 = true) (hc : csh es q1 q2) : rmv q1 q2 es es.length = sft q1 q2 es := by
  refine srt_ext (rmv_srt ok w2 hc _ (Nat.le_refl _)) (sft_srt ok w2 hc) (fun x => ?_)
  rw [rmv_mem, sft_mem, List.take_length]
  constructor
  · rintro (⟨a, b⟩ | ⟨y, hy, -, b⟩)
    · exact ⟨x, a, (mvp_no b).symm⟩
    · exact ⟨y, hy, b⟩
  · rintro ⟨y, hy, b⟩
    by_cases h : mvd q1 y
    · exact Or.inr ⟨y, hy, h, b⟩
    · rw [mvp_no h] at b
      rw [b]
      exact Or.inl ⟨hy, h⟩
theorem mv_okE (ok : okT es) (w2 : wf q2 = true) (hc : csh es q1 q2) (hy : y ∈ es) : okE (mvp q1 q2 y) := by
  have oy := ok.e hy
  refine ⟨?_, by rw [mvp_2]; exact oy.2.1, by rw [mvp_2]; exact oy.2.2.1, by rw [mvp_2]; exact oy.2.2.2⟩
  by_cases h : mvd q1 y
  · exact mv_wf ok w2 hc hy h
  · rw [mvp_no h]; exact oy.1
theorem rmv_ok (ok : okT es) (w2 : wf q2 = true) (hc : csh es q1 q2) : ∀ x ∈ rmv q1 q2 es i, okE x := by
  intro x hx
  rcases (rmv_mem i).mp hx with ⟨a, -⟩ | ⟨y, hy, -, b⟩
  · exact ok.e a
  · rw [b]; exact mv_okE ok w2 hc (List.mem_of_mem_take hy)
/-- a shorter path, moved -/
theorem sh_mv {t : List Nat} (h1 : q1 ≠ []) (h2 : q2 ≠ []) : sh (q1 ++ 47 :: t) - q1.length + q2.length = sh (q2 ++ 47 :: t) ∧ (par (q2 ++ 47 :: t)) = q2 ++ (par (q1 ++ 47 :: t)).drop q1.length := by
  have b1 : bw (q1 ++ 47 :: t) q1 := bw_iff.mpr ⟨t, rfl⟩
  obtain ⟨n1, l1⟩ := bw_sh b1 h1
  obtain ⟨s1, s2, s3⟩ := sh_spec n1
  have hp2 : 0 < q2.length := List.length_pos_iff.mpr h2
  have e1 : sh (q2 ++ 47 :: t) = sh (q1 ++ 47 :: t) - q1.length + q2.length := by
    refine sh_eq (by omega) ?_ (fun m hm => ?_)
    · rw [List.getElem?_append_right (by omega)] at s2
      rw [List.getElem?_append_right (by omega), Nat.add_sub_cancel]
      exact s2
    · have h9 := s3 (m - q2.length + q1.length) (by omega)
      rw [List.getElem?_append_right (by omega), Nat.add_sub_cancel] at h9
      rw [List.getElem?_append_right (by omega)]
      exact h9
  refine ⟨e1.symm, ?_⟩
  unfold par
  rw [e1, List.take_append, List.take_append, List.take_of_length_le (by omega), List.take_of_length_le (l := q1) (by omega), List.drop_left, Nat.add_sub_cancel]
theorem hpl_of (hs : srt es) (hg : g ∈ es) (hk : g.2.1 = 1) {p : List Nat} (hp : g.1 = par p) : hpl es p := Or.inr ((kx_1 hs).mpr ⟨g, hg, hp, hk⟩)
theorem hpl_ex (hs : srt es) {p : List Nat} (h : hpl es p) (h0 : sh p ≠ 0) : ∃ g ∈ es, g.1 = par p ∧ g.2.1 = 1 := by
  rcases h with w | w
  · exact absurd w h0
  · exact (kx_1 hs).mp w
theorem sft_ok (ok : okT es) (w2 : wf q2 = true) (hc : csh es q1 q2) : okT (sft q1 q2 es) := by
  have hs := sft_srt ok w2 hc
  refine ⟨fun x hx => ?_, hs, fun x hx => ?_⟩
  · obtain ⟨y, hy, rfl⟩ := sft_mem.mp hx
    exact mv_okE ok w2 hc hy
  · obtain ⟨y, hy, rfl⟩ := sft_mem.mp hx
    obtain ⟨f0, hf0, e0, w1⟩ := csh_q1 ok hc
    have n1 := wf_ne w1
    have n2 := wf_ne w2
    have stay : ∀ g ∈ es, ¬ mvd q1 g → g ∈ sft q1 q2 es := fun g hg hn => sft_mem.mpr ⟨g, hg, (mvp_no hn).symm⟩
    by_cases hm : mvd q1 y
    · obtain ⟨t, ht, htt⟩ := mvd_app hm
      rw [mvp_app hm ht]
      show hpl (sft q1 q2 es) (q2 ++ t)
      rcases htt with rfl | ⟨t', rfl⟩
      · rw [List.append_nil]
        by_cases h0 : sh q2 = 0
        · exact Or.inl h0
        · obtain ⟨g, hg, g1, g2⟩ := hpl_ex ok.2.1 hc.2.2.2.1 h0
          refine hpl_of hs (stay g hg ?_) g2 g1
          have hb : bw q2 g.1 := by rw [g1]; exact par_bw h0
          rintro (w | w)
          · exact hc.2.2.1 (by rw [← w]; exact hb)
          · exact hc.2.2.1 (bw_trans hb w)
      · have hb : bw y.1 q1 := bw_iff.mpr ⟨t', ht⟩
        obtain ⟨h0, -⟩ := bw_sh hb n1
        obtain ⟨g, hg, g1, g2⟩ := hpl_ex ok.2.1 (ok.2.2 y hy) h0
        have hgm : mvd q1 g := by
          rcases bw_par hb n1 with ⟨-, w⟩ | ⟨-, w⟩
          · exact Or.inl (g1.trans w)
          · exact Or.inr (by rw [g1]; exact w)
        obtain ⟨tg, htg, -⟩ := mvd_app hgm
        refine hpl_of hs (g := mvp q1 q2 g) (sft_mem.mpr ⟨g, hg, rfl⟩) (by rw [mvp_2]; exact g2) ?_
        rw [mvp_app hgm htg, (sh_mv n1 n2).2]
        show q2 ++ tg = q2 ++ _
        rw [← ht, ← g1, htg, List.drop_left]
    · rw [mvp_no hm]
      by_cases h0 : sh y.1 = 0
      · exact Or.inl h0
      · obtain ⟨g, hg, g1, g2⟩ := hpl_ex ok.2.1 (ok.2.2 y hy) h0
        refine hpl_of hs (stay g hg ?_) g2 g1
        have hb : bw y.1 g.1 := by rw [g1]; exact par_bw h0
        rintro (w | w)
        · exact hm (Or.inr (by rw [← w]; exact hb))
        · exact hm (Or.inr (bw_trans hb w))
/-- other changes keep a tree a tree -/
theorem pu_ok (ok : okT es) (of : okE f) (hp : hpl es f.1) (hl : ¬ (fx es f.1 = none ∧ es.length = 40)) (hk : f.2.1 = 1 ∨ kx es f.1 ≠ 1) : okT (pu es f) := by
  have hs := pu_srt ok.2.1 hl
  have keep : ∀ g ∈ es, g.2.1 = 1 → ∃ d ∈ pu es f, d.1 = g.1 ∧ d.2.1 = 1 := by
    intro g hg g2
    by_cases e : g.1 = f.1
    · refine ⟨f, (mem_pu ok.2.1 hl).mpr (Or.inl rfl), e.symm, ?_⟩
      rcases hk with w | w
      · exact w
      · exact absurd (by rw [← e, kx_mem ok.2.1 hg]; exact g2) w
    · exact ⟨g, (mem_pu ok.2.1 hl).mpr (Or.inr ⟨hg, e⟩), rfl, g2⟩
  have lift : ∀ p, hpl es p → hpl (pu es f) p := by
    intro p h
    by_cases h0 : sh p = 0
    · exact Or.inl h0
    · obtain ⟨g, hg, g1, g2⟩ := hpl_ex ok.2.1 h h0
      obtain ⟨d, hd, d1, d2⟩ := keep g hg g2
      exact hpl_of hs hd d2 (d1.trans g1)
  refine ⟨fun x hx => ?_, hs, fun x hx => ?_⟩
  · rcases (mem_pu ok.2.1 hl).mp hx with w | ⟨w, -⟩
    · rw [w]; exact of
    · exact ok.e w
  · rcases (mem_pu ok.2.1 hl).mp hx with w | ⟨w, -⟩
    · rw [w]; exact lift _ hp
    · exact lift _ (ok.2.2 x w)
theorem dr_ok {q : List Nat} {al : Bool} (ok : okT es) : okT (dr q al es) := by
  have hs : srt (dr q al es) := dr_srt ok.2.1
  refine ⟨fun x hx => ok.e (mem_dr.mp hx).1, hs, fun x hx => ?_⟩
  obtain ⟨h1, h2⟩ := mem_dr.mp hx
  by_cases h0 : sh x.1 = 0
  · exact Or.inl h0
  · obtain ⟨g, hg, g1, g2⟩ := hpl_ex ok.2.1 (ok.2.2 x h1) h0
    have hb : bw x.1 g.1 := by rw [g1]; exact par_bw h0
    refine hpl_of hs (mem_dr.mpr ⟨hg, ?_⟩) g2 g1
    rintro (w | ⟨-, w⟩)
    · exact h2 (Or.inl (bw_trans hb w))
    · exact h2 (Or.inl (by rw [← w]; exact hb))
/-- a file where something was: all below goes -/
theorem pudr_ok (ok : okT es) (of : okE f) (hp : hpl es f.1) (hl : ¬ (fx es f.1 = none ∧ es.length = 40)) : okT (dr f.1 false (pu es f)) := by
  have hs : srt (dr f.1 false (pu es f)) := dr_srt (pu_srt ok.2.1 hl)
  have hin : ∀ x, x ∈ dr f.1 false (pu es f) ↔ x = f ∨ (x ∈ es ∧ x.1 ≠ f.1 ∧ ¬ bw x.1 f.1) := by
    intro x
    rw [mem_dr, mem_pu ok.2.1 hl]
    constructor
    · rintro ⟨w | ⟨w1, w2⟩, w3⟩
      · exact Or.inl w
      · exact Or.inr ⟨w1, w2, fun q => w3 (Or.inl q)⟩
    · rintro (w | ⟨w1, w2, w3⟩)
      · refine ⟨Or.inl w, ?_⟩
        rw [w]
        rintro (q | q)
        · exact bw_irr q
        · exact absurd q.1 (by decide)
      · refine ⟨Or.inr ⟨w1, w2⟩, ?_⟩
        rintro (q | q)
        · exact w3 q
        · exact absurd q.1 (by decide)
  refine ⟨fun x hx => ?_, hs, fun x hx => ?_⟩
  · rcases (hin x).mp hx with w | ⟨w, -⟩
    · rw [w]; exact of
    · exact ok.e w
  · rcases (hin x).mp hx with w | ⟨w1, w2, w3⟩
    · rw [w]
      by_cases h0 : sh f.1 = 0
      · exact Or.inl h0
      · obtain ⟨g, hg, g1, g2⟩ := hpl_ex ok.2.1 hp h0
        have hb : bw f.1 g.1 := by rw [g1]; exact par_bw h0
        refine hpl_of hs ((hin g).mpr (Or.inr ⟨hg, fun e => ?_, fun q => ?_⟩)) g2 g1
        · rw [e] at hb; exact bw_irr hb
        · exact bw_irr (bw_trans hb q)
    · by_cases h0 : sh x.1 = 0
      · exact Or.inl h0
      · obtain ⟨g, hg, g1, g2⟩ := hpl_ex ok.2.1 (ok.2.2 x w1) h0
        have hb : bw x.1 g.1 := by rw [g1]; exact par_bw h0
        refine hpl_of hs ((hin g).mpr (Or.inr ⟨hg, fun e => ?_, fun q => ?_⟩)) g2 g1
        · exact w3 (by rw [← e]; exact hb)
        · exact w3 (bw_trans hb q)
theorem set_ok (ok : okT es) (of : okE f) (hi : fx es f.1 = some i) (hk : kx es f.1 = f.2.1) : okT (es.set i f) := by
  have hs := set_srt ok.2.1 hi
  have lift : ∀ p, hpl es p → hpl (es.set i f) p := by
    intro p h
    by_cases h0 : sh p = 0
    · exact Or.inl h0
    · obtain ⟨g, hg, g1, g2⟩ := hpl_ex ok.2.1 h h0
      by_cases e : g.1 = f.1
      · refine hpl_of hs (g := f) ((mem_set ok.2.1 hi).mpr (Or.inl rfl)) ?_ (e.symm.trans g1)
        rw [← hk, ← e, kx_mem ok.2.1 hg]
        exact g2
      · exact hpl_of hs ((mem_set ok.2.1 hi).mpr (Or.inr ⟨hg, e⟩)) g2 g1
  refine ⟨fun x hx => ?_, hs, fun x hx => ?_⟩
  · rcases (mem_set ok.2.1 hi).mp hx with w | ⟨w, -⟩
    · rw [w]; exact of
    · exact ok.e w
  · rcases (mem_set ok.2.1 hi).mp hx with w | ⟨w, -⟩
    · obtain ⟨e, he, h1⟩ := fx_lt hi
      rw [w, ← h1]
      exact lift _ (ok.2.2 e (List.mem_of_getElem? he))
    · exact lift _ (ok.2.2 x w)
end
