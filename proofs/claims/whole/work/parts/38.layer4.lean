/-! Layer: tell -/
/-- what is told of the entries r of the older tree and gs of the newer one fs -/
def tll (fs : List tE) : Nat → List tE → List tE → Option (List Nat) → List tI
  | 0, _, _, _ => []
  | _ + 1, [], [], _ => []
  | n + 1, [], g :: gs, em => itf g :: tll fs n [] gs em
  | n + 1, f :: r, [], em => gon fs em f ++ tll fs n r [] em
  | n + 1, f :: r, g :: gs, em => if f.1 < g.1 then gon fs em f ++ tll fs n r (g :: gs) em else if f.1 = g.1 then kpt f g (decide (emt f g r fs)) ++ tll fs n r gs (if emt f g r fs then some f.1 else em) else itf g :: tll fs n (f :: r) gs em
section
variable {G : tv_G} {h h' : tv_H} {a b e m t u i j : Nat} {p q p0 : List Nat} {c z : Nat} {bs cs ds cs0 : List Nat} {kd kd0 : Int32} {es fs : List tE} {f g : tE}
theorem itb_le {x : tI} (h1 : x.2.1.length ≤ 19) (h2 : x.2.2.length ≤ 16) : (itb x).length ≤ 39 := by rw [itb_len]; omega
theorem gon_len {em : Option (List Nat)} (h1 : f.1.length ≤ 19) : ((gon fs em f).flatMap itb).length ≤ 23 := by
  unfold gon
  split
  · simp
  · rw [itb_one, itb_len]; simp; omega
theorem kpt_len {y : Bool} (h1 : g.1.length ≤ 19) (h2 : g.2.2.length ≤ 16) : ((kpt f g y).flatMap itb).length ≤ 39 := by
  unfold kpt
  split
  · rw [itb_one, itb_len]; simp; omega
  · split
    · simp
    · rw [itb_one, itb_len]; simp [itf]; omega
theorem itf_len (h1 : g.1.length ≤ 19) (h2 : g.2.2.length ≤ 16) : (([itf g] : List tI).flatMap itb).length ≤ 39 := by
  rw [itb_one, itb_len]; simp [itf]; omega
theorem la_app {x y : List tI} {m : Nat} (hl : la h a (bs ++ (x ++ y).flatMap itb) (m + (x ++ y).length)) : la h a ((bs ++ x.flatMap itb) ++ y.flatMap itb) (m + x.length + y.length) := by
  rw [List.flatMap_append, List.length_append, ← List.append_assoc, ← Nat.add_assoc] at hl
  exact hl
theorem la_app' {x y : List tI} {m : Nat} (hl : la h a ((bs ++ x.flatMap itb) ++ y.flatMap itb) (m + x.length + y.length)) : la h a (bs ++ (x ++ y).flatMap itb) (m + (x ++ y).length) := by
  rw [List.flatMap_append, List.length_append, ← List.append_assoc, ← Nat.add_assoc]
  exact hl
theorem emr.mono {o : Option Nat} {em : Option (List Nat)} (h : emr es i o em) : emr es (i + 1) o em := by
  rcases h with h | ⟨k, g, h1, h2, h3⟩
  · exact Or.inl h
  · exact Or.inr ⟨k, g, h1, by omega, h3⟩
theorem emr.ne {o : Option Nat} {em : Option (List Nat)} (h : emr es i o em) (hi : i < 2 ^ 31) : ¬ ox o = nI i := by
  rcases h with ⟨rfl, -⟩ | ⟨k, g, rfl, h2, -⟩
  · exact fun q => m1_nI hi q.symm
  · intro q
    have := (nI_eq (by omega) hi).mp q
    omega
theorem l_La_tell (ht : tr h t es) (hu : tr h u fs) (hs : ∀ f ∈ es, okE f) (hs2 : ∀ f ∈ fs, okE f) (na : ∀ d, tS t d → ¬ pS a d) (nb : ∀ d, tS u d → ¬ pS a d) : ∀ n i j, (es.length - i) + (fs.length - j) ≤ n → i ≤ es.length → j ≤ fs.length → ∀ s g o em bs m hc, s + (es.length - i) + (fs.length - j) ≤ 80 → emr es i o em → la hc a bs m → fr (pS a) h hc → bs.length + 23 * (es.length - i) + 39 * (fs.length - j) ≤ 2480 → tv_Ev G mm_La_tell 21 [some (.ref a), some (.ref t), some (.ref u), some (.int (ox o)), some (.int (nI i)), some (.int (nI j)), some (.int (nI s)), g] [] hc c z (rn (fun h' => la h' a (bs ++ (tll fs n (es.drop i) (fs.drop j) em).flatMap itb) (m + (tll fs n (es.drop i) (fs.drop j) em).length) ∧ fr (pS a) h h')) := by
  have hlt := ht.len
  have hlu := hu.len
  have kt : ∀ {hc}, fr (pS a) h hc → tr hc t es := fun hf => ht.kept hf (fun d hd => na d hd)
  have ku : ∀ {hc}, fr (pS a) h hc → tr hc u fs := fun hf => hu.kept hf (fun d hd => nb d hd)
  intro n
  have fin : ∀ i j, i = es.length → j = fs.length → ∀ (s : Nat) g o em bs m hc, s ≤ 80 → la hc a bs m → fr (pS a) h hc → tv_Ev G mm_La_tell 21 [some (.ref a), some (.ref t), some (.ref u), some (.int (ox o)), some (.int (nI i)), some (.int (nI j)), some (.int (nI s)), g] [] hc c z (rn (fun h' => la h' a (bs ++ (tll fs n (es.drop i) (fs.drop j) em).flatMap itb) (m + (tll fs n (es.drop i) (fs.drop j) em).length) ∧ fr (pS a) h h')) := by
    rintro i j rfl rfl s g o em bs m hc hsz hl hf
    have e0 : tll fs n (es.drop es.length) (fs.drop fs.length) em = [] := by
      rw [List.drop_length, List.drop_length]
      cases n <;> rfl
    rw [e0]
    obtain ⟨rs, h1, -⟩ := (kt hf).row
    obtain ⟨us, k1, -⟩ := (ku hf).row
    refine e_La_tell_21 rfl ?_
    refine e_La_tell_23  ?_
    refine e_La_tell_25 (fun c1 => ?_) (fun c1 => ?_)
    · exact e_La_tell_165 ⟨rfl, nil_la hl, hf⟩
    · refine e_La_tell_28 rfl ?_
      refine e_La_tell_30 rfl ?_
      refine e_La_tell_31 h1 rfl ?_
      refine e_La_tell_34 (fun c2 => absurd c2 (nI_nlt (Nat.le_refl _) (by omega))) (fun _ => ?_)
      refine e_La_tell_37 rfl ?_
      refine e_La_tell_39 rfl ?_
      refine e_La_tell_40 k1 rfl ?_
      refine e_La_tell_43 (fun _ => ?_) (fun c2 => absurd (nI_le (Nat.le_refl _) (by omega)) c2)
      exact e_La_tell_165 ⟨rfl, nil_la hl, hf⟩
  induction n with
  | zero =>
    intro i j hn hi hj s g o em bs m hc hsz _ hl hf _
    exact fin i j (by omega) (by omega) s g o em bs m hc (by omega) hl hf
  | succ n ih =>
    intro i j hn hi hj s g o em bs m hc hsz hem hl hf hbs
    have ih := fun i j hn hi hj s g o em bs m hc => ih (by
      rintro i j rfl rfl s g o em bs m hc hsz hl hf
      have e0 : tll fs n (es.drop es.length) (fs.drop fs.length) em = [] := by
        rw [List.drop_length, List.drop_length]
        cases n <;> rfl
      rw [e0]
      obtain ⟨rs, h1, -⟩ := (kt hf).row
      obtain ⟨us, k1, -⟩ := (ku hf).row
      refine e_La_tell_21 rfl ?_
      refine e_La_tell_23  ?_
      refine e_La_tell_25 (fun c1 => ?_) (fun c1 => ?_)
      · exact e_La_tell_165 ⟨rfl, nil_la hl, hf⟩
      · refine e_La_tell_28 rfl ?_
        refine e_La_tell_30 rfl ?_
        refine e_La_tell_31 h1 rfl ?_
        refine e_La_tell_34 (fun c2 => absurd c2 (nI_nlt (Nat.le_refl _) (by omega))) (fun _ => ?_)
        refine e_La_tell_37 rfl ?_
        refine e_La_tell_39 rfl ?_
        refine e_La_tell_40 k1 rfl ?_
        refine e_La_tell_43 (fun _ => ?_) (fun c2 => absurd (nI_le (Nat.le_refl _) (by omega)) c2)
        exact e_La_tell_165 ⟨rfl, nil_la hl, hf⟩) i j hn hi hj s g o em bs m hc
    have htc := kt hf
    have huc := ku hf
    obtain ⟨rs, h1, h2, h3, h4⟩ := htc.rw
    obtain ⟨us, k1, k2, k3, k4⟩ := huc.rw
    obtain ⟨_, il, -⟩ := id hl
    rcases Nat.lt_or_ge 0 ((es.length - i) + (fs.length - j)) with hpos | hpos
    · -- a step
      have step : tv_Ev G mm_La_tell 46 [some (.ref a), some (.ref t), some (.ref u), some (.int (ox o)), some (.int (nI i)), some (.int (nI j)), some (.int (nI s)), g] [] hc c z (rn (fun h' => la h' a (bs ++ (tll fs (n + 1) (es.drop i) (fs.drop j) em).flatMap itb) (m + (tll fs (n + 1) (es.drop i) (fs.drop j) em).length) ∧ fr (pS a) h h')) := by
        have snew : ∀ x y, fs[j]? = some y → tll fs (n + 1) (es.drop i) (fs.drop j) em = [itf y] ++ tll fs n (es.drop i) (fs.drop (j + 1)) em → ¬ x ≤ (0 : Int32) → tv_Ev G mm_La_tell 59 [some (.ref a), some (.ref t), some (.ref u), some (.int (ox o)), some (.int (nI i)), some (.int (nI j)), some (.int (nI s)), some (.int x)] [.int x] hc c z (rn (fun h' => la h' a (bs ++ (tll fs (n + 1) (es.drop i) (fs.drop j) em).flatMap itb) (m + (tll fs (n + 1) (es.drop i) (fs.drop j) em).length) ∧ fr (pS a) h h')) := by
          intro x y hy he hx
          have hjl := (List.getElem?_eq_some_iff.mp hy).1
          obtain ⟨w, hw, e2, e2s⟩ := k4 j _ hy
          have oy := hs2 y (List.mem_of_getElem? hy)
          refine e_La_tell_59 (fun c1 => absurd c1 hx) (fun _ => ?_)
          refine e_La_tell_62 rfl ?_
          refine e_La_tell_63 rfl ?_
          refine e_La_tell_64 k1 rfl ?_
          refine e_La_tell_67 rfl ?_
          refine e_La_tell_69 j k2 rfl (map_get hw) (by rw [List.length_map]; omega) ?_
          refine e_La_tell_70 e2.1 rfl ?_
          refine e_La_tell_73 rfl ?_
          refine e_La_tell_74 k1 rfl ?_
          refine e_La_tell_77 rfl ?_
          refine e_La_tell_79 j k2 rfl (map_get hw) (by rw [List.length_map]; omega) ?_
          refine e_La_tell_80 il (by decide) (c_La_writeE hl e2 oy (fun d hd => nb d (e2s d hd)) (by omega)) (kn ?_) xn
          rintro hd ⟨ld, fd⟩
          refine e_La_tell_83 rfl ?_
          refine e_La_tell_86  ?_
          refine e_La_tell_159 rfl ?_
          refine e_La_tell_162  ?_
          have hlx := itf_len (g := y) e2.2.1.len e2.len
          have := ih i (j + 1) (by omega) hi (by omega) (s + 1) (some (.int x)) o em _ _ hd (by omega) hem ld (hf.tr fd) (by rw [List.length_append]; omega)
          rw [nI_succ, nI_succ] at this
          rw [he]
          refine ev_post ?_ this
          rintro r h' ⟨e9, l9, f9⟩
          exact ⟨e9, la_app' l9, f9⟩
        have sold : ∀ x y, es[i]? = some y → tll fs (n + 1) (es.drop i) (fs.drop j) em = gon fs em y ++ tll fs n (es.drop (i + 1)) (fs.drop j) em → x < (0 : Int32) → tv_Ev G mm_La_tell 59 [some (.ref a), some (.ref t), some (.ref u), some (.int (ox o)), some (.int (nI i)), some (.int (nI j)), some (.int (nI s)), some (.int x)] [.int x] hc c z (rn (fun h' => la h' a (bs ++ (tll fs (n + 1) (es.drop i) (fs.drop j) em).flatMap itb) (m + (tll fs (n + 1) (es.drop i) (fs.drop j) em).length) ∧ fr (pS a) h h')) := by
          intro x y hy he hx
          have hil := (List.getElem?_eq_some_iff.mp hy).1
          obtain ⟨w, hw, e2, e2s⟩ := h4 i _ hy
          have hx0 : x.toInt < 0 := by rw [Int32.lt_iff_toInt_lt, Int32.toInt_zero] at hx; exact hx
          refine e_La_tell_59 (fun _ => ?_) (fun c1 => absurd (show x ≤ 0 by rw [Int32.le_iff_toInt_le, Int32.toInt_zero]; omega) c1)
          refine e_La_tell_89 rfl ?_
          refine e_La_tell_91 (fun c1 => absurd c1 (by rw [Int32.le_iff_toInt_le, Int32.toInt_zero]; omega)) (fun _ => ?_)
          refine e_La_tell_94 rfl ?_
          refine e_La_tell_95 rfl ?_
          refine e_La_tell_96 rfl ?_
          refine e_La_tell_98 rfl ?_
          refine e_La_tell_99 rfl ?_
          refine e_La_tell_100 il (by decide) (c_La_tellGone hl htc huc hs hs2 na hy hem (by omega)) (kn ?_) xn
          rintro hd ⟨ld, fd⟩
          refine e_La_tell_103 rfl ?_
          refine e_La_tell_106  ?_
          refine e_La_tell_159 rfl ?_
          refine e_La_tell_162  ?_
          have hlx := gon_len (fs := fs) (em := em) (f := y) e2.2.1.len
          have := ih (i + 1) j (by omega) (by omega) hj (s + 1) (some (.int x)) o em _ _ hd (by omega) hem.mono ld (hf.tr fd) (by rw [List.length_append]; omega)
          rw [nI_succ, nI_succ] at this
          rw [he]
          refine ev_post ?_ this
          rintro r h' ⟨e9, l9, f9⟩
          exact ⟨e9, la_app' l9, f9⟩
        refine e_La_tell_46 rfl ?_
        refine e_La_tell_47 rfl ?_
        refine e_La_tell_49 rfl ?_
        refine e_La_tell_50 rfl ?_
        refine e_La_tell_52 (by decide) (c_La_orderOfRows htc huc (oks hs) (oks hs2) hi hj) (kp ?_) xn
        refine e_La_tell_55 (Nat.le_of_ble_eq_true rfl) ?_
        refine e_La_tell_57 rfl ?_
        rcases Nat.lt_or_ge i es.length with gi | gi
        · have hei : es[i]? = some es[i] := List.getElem?_eq_getElem gi
          have di := drop_g hei
          rcases Nat.lt_or_ge j fs.length with gj | gj
          · have hej : fs[j]? = some fs[j] := List.getElem?_eq_getElem gj
            have dj := drop_g hej
            have oi := hs _ (List.getElem_mem gi)
            have oj := hs2 _ (List.getElem_mem gj)
            rw [hei, hej]
            show tv_Ev G mm_La_tell 59 [some (.ref a), some (.ref t), some (.ref u), some (.int (ox o)), some (.int (nI i)), some (.int (nI j)), some (.int (nI s)), some (.int (ov es[i].1 fs[j].1))] [.int (ov es[i].1 fs[j].1)] hc c z _
            by_cases q1 : es[i].1 < fs[j].1
            · exact sold _ _ hei (by rw [di, dj, tll, if_pos q1]) ((ov_lt oi.s oj.s).mpr q1)
            · by_cases q2 : es[i].1 = fs[j].1
              · obtain ⟨r1, hr1, e1, e1s⟩ := h4 i _ hei
                obtain ⟨r2, hr2, e2, e2s⟩ := k4 j _ hej
                have he : tll fs (n + 1) (es.drop i) (fs.drop j) em = kpt es[i] fs[j] (decide (emt es[i] fs[j] (es.drop (i + 1)) fs)) ++ tll fs n (es.drop (i + 1)) (fs.drop (j + 1)) (if emt es[i] fs[j] (es.drop (i + 1)) fs then some es[i].1 else em) := by
                  rw [di, dj, tll, if_neg q1, if_pos q2]
                rw [(ov_eq oi.s oj.s).mpr q2]
                refine e_La_tell_59 (fun _ => ?_) (fun c1 => absurd (by decide) c1)
                refine e_La_tell_89 rfl ?_
                refine e_La_tell_91 (fun _ => ?_) (fun c1 => absurd (by decide) c1)
                refine e_La_tell_109 rfl ?_
                refine e_La_tell_110 rfl ?_
                refine e_La_tell_112 rfl ?_
                refine e_La_tell_113 rfl ?_
                refine e_La_tell_115 (by decide) (c_La_isEmptied htc huc hs hs2 hei hej) (kp ?_) xn
                have hlx := kpt_len (f := es[i]) (g := fs[j]) (y := decide (emt es[i] fs[j] (es.drop (i + 1)) fs)) e2.2.1.len e2.len
                have main : ∀ o' em', emr es (i + 1) o' em' → em' = (if emt es[i] fs[j] (es.drop (i + 1)) fs then some es[i].1 else em) → (ox o' = nI i ↔ emt es[i] fs[j] (es.drop (i + 1)) fs) → tv_Ev G mm_La_tell 124 [some (.ref a), some (.ref t), some (.ref u), some (.int (ox o')), some (.int (nI i)), some (.int (nI j)), some (.int (nI s)), some (.int 0)] [] hc c z (rn (fun h' => la h' a (bs ++ (tll fs (n + 1) (es.drop i) (fs.drop j) em).flatMap itb) (m + (tll fs (n + 1) (es.drop i) (fs.drop j) em).length) ∧ fr (pS a) h h')) := by
                  intro o' em' hem' hee hox
                  have tail : tv_Ev G mm_La_tell 150 [some (.ref a), some (.ref t), some (.ref u), some (.int (ox o')), some (.int (nI i)), some (.int (nI j)), some (.int (nI s)), some (.int 0)] [.int (if decide (emt es[i] fs[j] (es.drop (i + 1)) fs) = true then 1 else 0), .ref r2, .ref r1, .ref a] hc c z (rn (fun h' => la h' a (bs ++ (tll fs (n + 1) (es.drop i) (fs.drop j) em).flatMap itb) (m + (tll fs (n + 1) (es.drop i) (fs.drop j) em).length) ∧ fr (pS a) h h')) := by
                    refine e_La_tell_150 il (by decide) (c_La_tellKept hl e1 e2 oj (fun d hd => nb d (e2s d hd)) (by omega)) (kn ?_) xn
                    rintro hd ⟨ld, fd⟩
                    refine e_La_tell_153 rfl ?_
                    refine e_La_tell_156 rfl ?_
                    refine e_La_tell_159 rfl ?_
                    refine e_La_tell_162  ?_
                    have := ih (i + 1) (j + 1) (by omega) (by omega) (by omega) (s + 1) (some (.int 0)) o' em' _ _ hd (by omega) hem' ld (hf.tr fd) (by rw [List.length_append]; omega)
                    rw [nI_succ, nI_succ, nI_succ] at this
                    rw [he, ← hee]
                    refine ev_post ?_ this
                    rintro r h' ⟨e9, l9, f9⟩
                    exact ⟨e9, la_app' l9, f9⟩
                  refine e_La_tell_124 rfl ?_
                  refine e_La_tell_125 rfl ?_
                  refine e_La_tell_126 h1 rfl ?_
                  refine e_La_tell_129 rfl ?_
                  refine e_La_tell_131 i h2 rfl (map_get hr1) (by rw [List.length_map]; omega) ?_
                  refine e_La_tell_132 rfl ?_
                  refine e_La_tell_133 k1 rfl ?_
                  refine e_La_tell_136 rfl ?_
                  refine e_La_tell_138 j k2 rfl (map_get hr2) (by rw [List.length_map]; omega) ?_
                  refine e_La_tell_139 rfl ?_
                  refine e_La_tell_140 rfl ?_
                  by_cases q3 : emt es[i] fs[j] (es.drop (i + 1)) fs
                  · rw [if_pos (decide_eq_true q3)] at tail
                    refine e_La_tell_142 (fun c1 => absurd (hox.mpr q3) c1) (fun _ => ?_)
                    refine e_La_tell_145  ?_
                    refine e_La_tell_146  ?_
                    exact tail
                  · rw [if_neg (fun w => q3 (of_decide_eq_true w))] at tail
                    refine e_La_tell_142 (fun _ => ?_) (fun c1 => absurd (hox.mp c1) q3)
                    refine e_La_tell_149  ?_
                    exact tail
                by_cases q3 : emt es[i] fs[j] (es.drop (i + 1)) fs
                · rw [if_pos q3]
                  refine e_La_tell_118 (fun c1 => absurd c1 (by decide)) (fun _ => ?_)
                  refine e_La_tell_121 rfl ?_
                  refine e_La_tell_123 (Nat.le_of_ble_eq_true rfl) ?_
                  exact main (some i) (some es[i].1) (Or.inr ⟨i, es[i], rfl, by omega, hei, rfl⟩) (by rw [if_pos q3]) ⟨fun _ => q3, fun _ => rfl⟩
                · rw [if_neg q3]
                  refine e_La_tell_118 (fun _ => ?_) (fun c1 => absurd rfl c1)
                  exact main o em hem.mono (by rw [if_neg q3]) ⟨fun w => absurd w (hem.ne (by omega)), fun w => absurd w q3⟩
              · refine snew _ _ hej ?_ ?_
                · rw [di, dj, tll, if_neg q1, if_neg q2]; rfl
                · intro w
                  have w2 := (ov_ge oi.s oj.s).mpr q1
                  rw [Int32.le_iff_toInt_le, Int32.toInt_zero] at w w2
                  exact q2 ((ov_int oi.s oj.s).1.mp (by omega))
          · have dj : fs.drop j = [] := List.drop_eq_nil_of_le gj
            rw [hei, List.getElem?_eq_none gj]
            exact sold _ _ hei (by rw [di, dj, tll]) (show (-1 : Int32) < 0 by decide)
        · have di : es.drop i = [] := List.drop_eq_nil_of_le gi
          have gj : j < fs.length := by omega
          have hej : fs[j]? = some fs[j] := List.getElem?_eq_getElem gj
          have dj := drop_g hej
          rw [List.getElem?_eq_none gi, hej]
          exact snew _ _ hej (by rw [di, dj, tll]; rfl) (show ¬ (1 : Int32) ≤ 0 by decide)
      refine e_La_tell_21 rfl ?_
      refine e_La_tell_23  ?_
      refine e_La_tell_25 (fun c1 => absurd c1 (nI_ge (b := 80) (by omega) (by decide))) (fun _ => ?_)
      refine e_La_tell_28 rfl ?_
      refine e_La_tell_30 rfl ?_
      refine e_La_tell_31 h1 rfl ?_
      refine e_La_tell_34 (fun _ => step) (fun c1 => ?_)
      have gi : es.length ≤ i := by
        rcases Nat.lt_or_ge i es.length with w | w
        · exact absurd (nI_lt w (by omega)) c1
        · exact w
      refine e_La_tell_37 rfl ?_
      refine e_La_tell_39 rfl ?_
      refine e_La_tell_40 k1 rfl ?_
      refine e_La_tell_43 (fun c2 => absurd c2 (nI_ge (by omega) (by omega))) (fun _ => step)
    · exact fin i j (by omega) (by omega) s g o em bs m hc (by omega) hl hf
theorem c_La_tell (hl : la h a bs m) (ht : tr h t es) (hu : tr h u fs) (hs : ∀ f ∈ es, okE f) (hs2 : ∀ f ∈ fs, okE f) (na : ∀ d, tS t d → ¬ pS a d) (nb : ∀ d, tS u d → ¬ pS a d) : tv_Ct G mm_La_tell [.ref a, .ref t, .ref u] h 0 0 (rn (fun h' => la h' a ((tll fs (es.length + fs.length) es fs none).flatMap itb) (tll fs (es.length + fs.length) es fs none).length ∧ fr (pS a) h h')) := by
  have hlt := ht.len
  have hlu := hu.len
  obtain ⟨as, h1, h2, h3, h4, h5, h6⟩ := hl
  have j1 := gs_eq (e := (1, [.ref (a + 1), .int 0, .int (nI m)])) h1
  refine tv_ct rfl (by decide +kernel) (by simp [Value.category]) (Nat.le_of_ble_eq_true rfl) ?_
  refine e_La_tell_0 rfl ?_
  refine e_La_tell_1  ?_
  refine e_La_tell_2 h1 (Nat.le_of_ble_eq_true rfl) ?_
  refine e_La_tell_5 rfl ?_
  refine e_La_tell_6  ?_
  refine e_La_tell_7 j1 (Nat.le_of_ble_eq_true rfl) ?_
  refine e_La_tell_10  ?_
  refine e_La_tell_11 (Nat.le_of_ble_eq_true rfl) ?_
  refine e_La_tell_12  ?_
  refine e_La_tell_13 (Nat.le_of_ble_eq_true rfl) ?_
  refine e_La_tell_15  ?_
  refine e_La_tell_16 (Nat.le_of_ble_eq_true rfl) ?_
  refine e_La_tell_18  ?_
  refine e_La_tell_19 (Nat.le_of_ble_eq_true rfl) ?_
  have l0 : la ((h.set a (1, [.ref (a + 1), .int 0, .int (nI m)])).set a (1, [.ref (a + 1), .int 0, .int 0])) a [] 0 := ⟨as, gs_eq j1, gs_ne (gs_ne h2 (by omega)) (by omega), h3, List.nil_prefix, h5, fun _ h => by cases h⟩
  have := l_La_tell (G := G) (c := 0) (z := 0) ht hu hs hs2 na nb (es.length + fs.length) 0 0 (by omega) (by omega) (by omega) 0 none none none [] 0 _ (by omega) (Or.inl ⟨rfl, rfl⟩) l0 ((fr.set (Or.inl rfl)).tr (fr.set (Or.inl rfl))) (by simp; omega)
  rw [List.nil_append, Nat.zero_add] at this
  exact this
end
