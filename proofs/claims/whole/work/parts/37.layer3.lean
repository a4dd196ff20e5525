/-! Layer: orderOfRows, tellKept, tellGone, isEmptied -/
theorem wa_sm : ∀ {p : List Nat} {n m : Nat}, wa n p = some m → sm p := by
  intro p
  induction p with
  | nil => intro n m _ c hc; cases hc
  | cons d p ih =>
    intro n m h
    rw [wa] at h
    have hd : d < 128 ∧ ∃ n', wa n' p = some m := by
      split at h
      · rename_i g; exact ⟨by omega, _, h⟩
      · split at h
        · rename_i g; exact ⟨by rcases g.1 with q | q <;> omega, _, h⟩
        · cases h
    obtain ⟨h1, n', h2⟩ := hd
    intro c hc
    rcases List.mem_cons.mp hc with g | g
    · rw [g]; exact h1
    · exact ih h2 c g
theorem wf_sm {p : List Nat} (h : wf p = true) : sm p := by
  unfold wf at h
  split at h
  · rename_i n h1; exact wa_sm h1
  · cases h
/-- an entry as a tree has it -/
def okE (f : tE) : Prop := wf f.1 = true ∧ ((f.2.1 = 1 ∧ f.2.2 = []) ∨ f.2.1 = 2) ∧ f.2.2.length ≤ 16 ∧ ∀ c ∈ f.2.2, c < 256
theorem okE.s {f : tE} (h : okE f) : sm f.1 := wf_sm h.1
theorem okE.n {f : tE} (h : okE f) : f.1 ≠ [] := wf_ne h.1
theorem oks {es : List tE} (h : ∀ f ∈ es, okE f) : sme es := fun f hf => (h f hf).s
theorem tr.rw {h : tv_H} {t : Nat} {es : List tE} (ht : tr h t es) : ∃ rs : List Nat, h[t]? = some (3, [.ref (t + 1), .int (nI es.length)]) ∧ h[t + 1]? = some (103, rs.map Value.ref) ∧ rs.length = 40 ∧ ∀ (k : Nat) (e : tE), es[k]? = some e → ∃ r : Nat, rs[k]? = some r ∧ en h r e.1 e.2.1 e.2.2 ∧ ∀ d, eS r d → tS t d := by
  have hl := ht.len
  obtain ⟨L, hq, hp⟩ := ht
  refine ⟨L.map Prod.fst, hq.1, by rw [List.map_map]; exact hq.2.1, by rw [List.length_map]; exact hq.2.2.1, fun k e he => ?_⟩
  have hk := (List.getElem?_eq_some_iff.mp he).1
  have h2 := pre_at hp hk
  rw [he, List.getElem?_map] at h2
  cases hx : L[k]? with
  | none => rw [hx] at h2; cases h2
  | some x =>
    rw [hx] at h2
    have h2 : x.2 = e := Option.some.inj h2
    subst h2
    obtain ⟨⟨j, hj, ej⟩, e2⟩ := hq.2.2.2.2.2 x (List.mem_of_getElem? hx)
    exact ⟨x.1, by rw [List.getElem?_map, hx]; rfl, e2, fun d hd => ⟨by have := hd.1; omega, by have := hd.2; omega⟩⟩
/-- how many entries right below u stand at the beginning of the list, if the tree fs has none of them -/
def emw (u : List Nat) (fs : List tE) : List tE → Nat → Option Nat
  | [], n => some n
  | f :: r, n => if bw f.1 u then (if sh f.1 = u.length then (if fx fs f.1 = none then emw u fs r (n + 1) else none) else emw u fs r n) else some n
/-- f, a directory of the older tree before the entries r, is emptied: g is what the newer one fs has there -/
def emo : Option Nat → Bool
  | some n => decide (2 ≤ n)
  | none => false
abbrev emt (f g : tE) (r fs : List tE) : Prop := f.2.1 = 1 ∧ g.2.1 = 1 ∧ emo (emw f.1 fs r 0) = true
/-- a path below the one emptied last -/
def ebw (em : Option (List Nat)) (p : List Nat) : Bool := match em with
  | some u => decide (bw p u)
  | none => false
/-- the item of an entry that is new -/
def itf (g : tE) : tI := (if g.2.1 = 1 then 1 else 2, g.1, g.2.2)
/-- an entry that is gone: what is told of it -/
def gon (fs : List tE) (em : Option (List Nat)) (f : tE) : List tI := if ebw em f.1 = true ∨ ¬ hpl fs f.1 then [] else [(3, f.1, [])]
/-- an entry of both trees: what is told of it -/
def kpt (f g : tE) (e : Bool) : List tI := if e = true then [(4, g.1, [])] else if f.2 = g.2 then [] else [itf g]
section
variable {G : tv_G} {h h' : tv_H} {a b e m t u i j : Nat} {p q p0 : List Nat} {c z : Nat} {bs cs ds cs0 : List Nat} {kd kd0 : Int32} {es fs : List tE} {f g : tE}
theorem c_La_orderOfRows (ht : tr h t es) (hu : tr h u fs) (hs : sme es) (hs2 : sme fs) (hi : i ≤ es.length) (hj : j ≤ fs.length) : tv_Ct G mm_La_orderOfRows [.ref t, .int (nI i), .ref u, .int (nI j)] h 0 0 (rv (.int (match es[i]?, fs[j]? with
    | none, _ => 1
    | some _, none => -1
    | some f, some g => ov f.1 g.1)) (fun h' => h' = h)) := by
  have hl := ht.len
  have hl2 := hu.len
  obtain ⟨rs, h1, h2, h3, h4⟩ := ht.row
  obtain ⟨us, k1, k2, k3, k4⟩ := hu.row
  refine tv_ct rfl (by decide +kernel) (by simp [Value.category]) (Nat.le_of_ble_eq_true rfl) ?_
  refine e_La_orderOfRows_0 rfl ?_
  refine e_La_orderOfRows_1 rfl ?_
  refine e_La_orderOfRows_2 h1 rfl ?_
  refine e_La_orderOfRows_5 (fun c1 => ?_) (fun c1 => ?_)
  · have c1 := (nI_ltI (by omega) (by omega)).mp c1
    have hei : es[i]? = some es[i] := List.getElem?_eq_getElem c1
    rw [hei]
    obtain ⟨r, hr, e1⟩ := h4 i _ hei
    obtain ⟨_, i1, -⟩ := id e1.2.1
    refine e_La_orderOfRows_10 rfl ?_
    refine e_La_orderOfRows_11 rfl ?_
    refine e_La_orderOfRows_12 k1 rfl ?_
    refine e_La_orderOfRows_15 (fun c2 => ?_) (fun c2 => ?_)
    · have c2 := (nI_ltI (by omega) (by omega)).mp c2
      have hej : fs[j]? = some fs[j] := List.getElem?_eq_getElem c2
      rw [hej]
      obtain ⟨w, hw, e2⟩ := k4 j _ hej
      obtain ⟨_, i2, -⟩ := id e2.2.1
      refine e_La_orderOfRows_20 rfl ?_
      refine e_La_orderOfRows_21 k1 rfl ?_
      refine e_La_orderOfRows_24 rfl ?_
      refine e_La_orderOfRows_25 j k2 rfl (map_get hw) (by rw [List.length_map]; omega) ?_
      refine e_La_orderOfRows_26 e2.1 rfl ?_
      refine e_La_orderOfRows_29 (Nat.le_of_ble_eq_true rfl) ?_
      refine e_La_orderOfRows_31 rfl ?_
      refine e_La_orderOfRows_32 h1 rfl ?_
      refine e_La_orderOfRows_35 rfl ?_
      refine e_La_orderOfRows_36 i h2 rfl (map_get hr) (by rw [List.length_map]; omega) ?_
      refine e_La_orderOfRows_37 e1.1 rfl ?_
      refine e_La_orderOfRows_40 rfl ?_
      refine e_La_orderOfRows_42 rfl ?_
      refine e_La_orderOfRows_44 i2 rfl ?_
      refine e_La_orderOfRows_47 i1 (by decide) (c_Pa_order e1.2.1 e2.2.1 (hs _ (List.getElem_mem _)) (hs2 _ (List.getElem_mem _)) (m := fs[j].1.length) (by have := e2.2.1.len; omega)) (kp ?_) xn
      rw [List.take_length]
      exact e_La_orderOfRows_50 ⟨rfl, rfl⟩
    · have c2 : fs.length ≤ j := by
        rcases Nat.lt_or_ge j fs.length with q | q
        · exact absurd (nI_lt q (by omega)) c2
        · exact q
      rw [List.getElem?_eq_none c2]
      refine e_La_orderOfRows_18  ?_
      exact e_La_orderOfRows_19 ⟨rfl, rfl⟩
  · have c1 : es.length ≤ i := by
      rcases Nat.lt_or_ge i es.length with q | q
      · exact absurd (nI_lt q (by omega)) c1
      · exact q
    rw [List.getElem?_eq_none c1]
    refine e_La_orderOfRows_8  ?_
    exact e_La_orderOfRows_9 ⟨rfl, rfl⟩
theorem itb_one (x : tI) : ([x] : List tI).flatMap itb = itb x := by simp
theorem nil_la (hl : la h a bs m) : la h a (bs ++ ([] : List tI).flatMap itb) (m + ([] : List tI).length) := by
  show la h a (bs ++ []) m
  rw [List.append_nil]
  exact hl
/-- writeItem of an entry of a tree, with the entry's own kind -/
theorem c_La_writeE (hl : la h a bs m) (he : en h e g.1 g.2.1 g.2.2) (og : okE g) (na : ∀ d, eS e d → ¬ pS a d) (hn : bs.length + 39 ≤ 2480) : tv_Ct G mm_La_writeItem [.ref a, .int g.2.1, .ref e] h 0 0 (rn (fun h' => la h' a (bs ++ ([itf g] : List tI).flatMap itb) (m + ([itf g] : List tI).length) ∧ fr (pS a) h h')) := by
  have hp19 := he.2.1.len
  have hc16 := he.len
  have sp := og.s
  obtain ⟨p, kd, cs⟩ := g
  rw [itb_one]
  rcases og.2.1 with ⟨g1, g2⟩ | g1
  · have g1 : kd = 1 := g1
    have g2 : cs = [] := g2
    subst g1
    subst g2
    exact c_La_writeItem (w := 1) (by decide) hl he sp na (by simp at hp19 ⊢; omega)
  · have g1 : kd = 2 := g1
    subst g1
    exact c_La_writeItem (w := 2) (by decide) hl he sp na (by simp at hp19 hc16 ⊢; omega)
theorem c_La_tellKept {y : Bool} {e2 : Nat} (hl : la h a bs m) (he : en h e f.1 f.2.1 f.2.2) (he2 : en h e2 g.1 g.2.1 g.2.2) (og : okE g) (na : ∀ d, eS e2 d → ¬ pS a d) (hn : bs.length + 39 ≤ 2480) : tv_Ct G mm_La_tellKept [.ref a, .ref e, .ref e2, .int (if y = true then 1 else 0)] h 0 0 (rn (fun h' => la h' a (bs ++ (kpt f g y).flatMap itb) (m + (kpt f g y).length) ∧ fr (pS a) h h')) := by
  obtain ⟨_, i1, -⟩ := id hl
  have hp19 := he2.2.1.len
  refine tv_ct rfl (by decide +kernel) (by simp [Value.category]) (Nat.le_of_ble_eq_true rfl) ?_
  refine e_La_tellKept_0 rfl ?_
  unfold kpt
  cases y with
  | true =>
    rw [if_pos rfl, if_pos rfl]
    refine e_La_tellKept_1 (fun c1 => absurd c1 (by decide)) (fun _ => ?_)
    refine e_La_tellKept_4 rfl ?_
    refine e_La_tellKept_5  ?_
    refine e_La_tellKept_6 rfl ?_
    refine e_La_tellKept_7 i1 (by decide) (c_La_writeItem (w := 4) (by decide) hl he2 og.s na (by simp; omega)) (kn ?_) xn
    rintro h' ⟨l', f'⟩
    refine e_La_tellKept_10  ?_
    exact e_La_tellKept_30 ⟨rfl, by rw [itb_one]; exact l', f'⟩
  | false =>
    rw [if_neg (by decide), if_neg (by decide)]
    refine e_La_tellKept_1 (fun _ => ?_) (fun c1 => absurd rfl c1)
    refine e_La_tellKept_13 rfl ?_
    refine e_La_tellKept_14 rfl ?_
    refine e_La_tellKept_15 he2.1 (by decide) (c_En_hasLikeContent he2 he) (kp ?_) xn
    by_cases q : f.2 = g.2
    · rw [if_pos (show g.2.1 = f.2.1 ∧ g.2.2 = f.2.2 from ⟨by rw [q], by rw [q]⟩), if_pos q]
      refine e_La_tellKept_18 (fun _ => ?_) (fun c1 => absurd c1 (by decide))
      exact e_La_tellKept_30 ⟨rfl, nil_la hl, fr.rf⟩
    · rw [if_neg (show ¬ (g.2.1 = f.2.1 ∧ g.2.2 = f.2.2) from fun w => q (Prod.ext w.1.symm w.2.symm)), if_neg q]
      refine e_La_tellKept_18 (fun c1 => absurd rfl c1) (fun _ => ?_)
      refine e_La_tellKept_21 rfl ?_
      refine e_La_tellKept_22 rfl ?_
      refine e_La_tellKept_23 he2.1 rfl ?_
      refine e_La_tellKept_26 rfl ?_
      refine e_La_tellKept_27 i1 (by decide) (c_La_writeE hl he2 og na hn) (kn ?_) xn
      rintro h' ⟨l', f'⟩
      exact e_La_tellKept_30 ⟨rfl, l', f'⟩
/-- the emptied row's index, and its path -/
def emr (es : List tE) (i : Nat) (o : Option Nat) (em : Option (List Nat)) : Prop := (o = none ∧ em = none) ∨ ∃ k g, o = some k ∧ k < i ∧ es[k]? = some g ∧ em = some g.1
theorem c_La_tellGone {o : Option Nat} {em : Option (List Nat)} (hl : la h a bs m) (ht : tr h t es) (hu : tr h u fs) (hs : ∀ f ∈ es, okE f) (hs2 : ∀ f ∈ fs, okE f) (na : ∀ d, tS t d → ¬ pS a d) (hi : es[i]? = some f) (ho : emr es i o em) (hn : bs.length + 23 ≤ 2480) : tv_Ct G mm_La_tellGone [.ref a, .ref t, .int (nI i), .ref u, .int (ox o)] h 0 0 (rn (fun h' => la h' a (bs ++ (gon fs em f).flatMap itb) (m + (gon fs em f).length) ∧ fr (pS a) h h')) := by
  have hlt := ht.len
  have hil := (List.getElem?_eq_some_iff.mp hi).1
  obtain ⟨_, i1, -⟩ := id hl
  obtain ⟨rs, h1, h2, h3, h4⟩ := ht.rw
  obtain ⟨us, k1, -⟩ := hu.row
  obtain ⟨r, hr, e1, e1s⟩ := h4 i _ hi
  have of := hs f (List.mem_of_getElem? hi)
  have hp19 := e1.2.1.len
  obtain ⟨_, i2, -⟩ := id e1.2.1
  have go : ¬ ebw em f.1 = true → tv_Ev G mm_La_tellGone 36 [some (.ref a), some (.ref t), some (.int (nI i)), some (.ref u), some (.int (ox o)), some (.ref r)] [] h 0 0 (rn (fun h' => la h' a (bs ++ (gon fs em f).flatMap itb) (m + (gon fs em f).length) ∧ fr (pS a) h h')) := by
    intro hne
    unfold gon
    refine e_La_tellGone_36 rfl ?_
    refine e_La_tellGone_37 rfl ?_
    refine e_La_tellGone_39 e1.1 rfl ?_
    refine e_La_tellGone_42 k1 (by decide) (c_Tr_hasPlaceFor hu (oks hs2) e1.2.1 of.s of.n) (kp ?_) xn
    by_cases q : hpl fs f.1
    · rw [if_pos q, if_neg (show ¬ (ebw em f.1 = true ∨ ¬ hpl fs f.1) from by rintro (w | w); exact hne w; exact w q)]
      refine e_La_tellGone_45 (fun c1 => absurd c1 (by decide)) (fun _ => ?_)
      refine e_La_tellGone_48 rfl ?_
      refine e_La_tellGone_49  ?_
      refine e_La_tellGone_50 rfl ?_
      refine e_La_tellGone_52 i1 (by decide) (c_La_writeItem (w := 3) (by decide) hl e1 of.s (fun d hd => na d (e1s d hd)) (by simp; omega)) (kn ?_) xn
      rintro h' ⟨l', f'⟩
      exact e_La_tellGone_55 ⟨rfl, by rw [itb_one]; exact l', f'⟩
    · rw [if_neg q, if_pos (show ebw em f.1 = true ∨ ¬ hpl fs f.1 from Or.inr q)]
      refine e_La_tellGone_45 (fun _ => ?_) (fun c1 => absurd rfl c1)
      exact e_La_tellGone_55 ⟨rfl, nil_la hl, fr.rf⟩
  refine tv_ct rfl (by decide +kernel) (by simp [Value.category]) (Nat.le_of_ble_eq_true rfl) ?_
  refine e_La_tellGone_0 rfl ?_
  refine e_La_tellGone_1 h1 rfl ?_
  refine e_La_tellGone_4 rfl ?_
  refine e_La_tellGone_5 i h2 rfl (map_get hr) (by rw [List.length_map]; omega) ?_
  refine e_La_tellGone_6 (Nat.le_of_ble_eq_true rfl) ?_
  refine e_La_tellGone_8 rfl ?_
  refine e_La_tellGone_10  ?_
  rcases ho with ⟨rfl, rfl⟩ | ⟨k, g, rfl, hk, hg, rfl⟩
  · refine e_La_tellGone_11 (fun _ => ?_) (fun c1 => absurd rfl c1)
    exact go (by rintro g; cases g)
  · obtain ⟨w, hw, e2, -⟩ := h4 k _ hg
    have og := hs g (List.mem_of_getElem? hg)
    refine e_La_tellGone_11 (fun c1 => absurd c1 (m1_nI (by omega))) (fun _ => ?_)
    refine e_La_tellGone_14 rfl ?_
    refine e_La_tellGone_16 e1.1 rfl ?_
    refine e_La_tellGone_19 rfl ?_
    refine e_La_tellGone_20 h1 rfl ?_
    refine e_La_tellGone_23 rfl ?_
    refine e_La_tellGone_25 k h2 rfl (map_get hw) (by rw [List.length_map]; omega) ?_
    refine e_La_tellGone_26 e2.1 rfl ?_
    refine e_La_tellGone_29 i2 (by decide) (c_Pa_isBelow e1.2.1 e2.2.1 of.s og.s) (kp ?_) xn
    by_cases q : bw f.1 g.1
    · rw [if_pos q]
      refine e_La_tellGone_32 (fun c1 => absurd c1 (by decide)) (fun _ => ?_)
      have ee : gon fs (some g.1) f = [] := by unfold gon; rw [if_pos (show ebw (some g.1) f.1 = true ∨ ¬ hpl fs f.1 from Or.inl (decide_eq_true q))]
      rw [ee]
      exact e_La_tellGone_35 ⟨rfl, nil_la hl, fr.rf⟩
    · rw [if_neg q]
      refine e_La_tellGone_32 (fun _ => ?_) (fun c1 => absurd rfl c1)
      exact go (fun hb => q (of_decide_eq_true hb))
theorem l_La_isEmptied {up n0 : Nat} (ht : tr h t es) (hu : tr h u fs) (hs : ∀ f ∈ es, okE f) (hs2 : ∀ f ∈ fs, okE f) (hq : pa h up q) (sq : sm q) {R : Int32} (hR : R = if emo (emw q fs (es.drop n0) 0) = true then 1 else 0) : ∀ jj k, jj + k = es.length → ∀ n g7, n ≤ k → emw q fs (es.drop n0) 0 = emw q fs (es.drop k) n → tv_Ev G mm_La_isEmptied 47 [some (.ref t), some (.int (nI i)), some (.ref u), some (.int (nI j)), some (.ref up), some (.int (nI n)), some (.int (nI k)), g7] [] h c z (rv (.int R) (fun h' => h' = h)) := by
  have hl := ht.len
  obtain ⟨rs, h1, h2, h3, h4⟩ := ht.row
  obtain ⟨us, k1, -⟩ := hu.row
  obtain ⟨_, iq, -⟩ := id hq
  have hq19 := hq.len
  have fin : ∀ n, n ≤ 40 → emw q fs (es.drop n0) 0 = some n → ∀ ls, ls[5]? = some (some (.int (nI n))) → tv_Ev G mm_La_isEmptied 120 ls [] h c z (rv (.int R) (fun h' => h' = h)) := by
    intro n hn he ls hls
    refine e_La_isEmptied_120 hls ?_
    refine e_La_isEmptied_122  ?_
    refine e_La_isEmptied_123 (fun c1 => ?_) (fun c1 => ?_)
    · have c1 := (nI_ltI (b := 2) (by omega) (by decide)).mp c1
      refine e_La_isEmptied_130  ?_
      exact e_La_isEmptied_131 (Or.inl rfl) ⟨by rw [hR, he, if_neg]; intro g1; have := of_decide_eq_true g1; omega, rfl⟩
    · have c1 : 2 ≤ n := by
        rcases Nat.lt_or_ge n 2 with w | w
        · exact absurd (nI_lt (b := 2) w (by decide)) c1
        · exact w
      refine e_La_isEmptied_126  ?_
      refine e_La_isEmptied_127  ?_
      exact e_La_isEmptied_131 (Or.inr rfl) ⟨by rw [hR, he, if_pos (show emo (some n) = true from decide_eq_true c1)], rfl⟩
  intro jj
  induction jj with
  | zero =>
    intro k hk n g7 hn he
    have hk : k = es.length := by omega
    subst hk
    rw [List.drop_length, emw] at he
    refine e_La_isEmptied_47 rfl ?_
    refine e_La_isEmptied_49 rfl ?_
    refine e_La_isEmptied_50 h1 rfl ?_
    refine e_La_isEmptied_53 (fun _ => ?_) (fun c1 => absurd (nI_le (Nat.le_refl _) (by omega)) c1)
    exact fin n (by omega) he _ rfl
  | succ jj ih =>
    intro k hk n g7 hn he
    have hek : es[k]? = some es[k] := List.getElem?_eq_getElem (by omega)
    have ok := hs _ (List.getElem_mem (show k < es.length by omega))
    obtain ⟨r, hr, e1⟩ := h4 k _ hek
    obtain ⟨_, i1, -⟩ := id e1.2.1
    rw [drop_g hek, emw] at he
    have hi' := ih (k + 1) (by omega)
    rw [nI_succ] at hi'
    refine e_La_isEmptied_47 rfl ?_
    refine e_La_isEmptied_49 rfl ?_
    refine e_La_isEmptied_50 h1 rfl ?_
    refine e_La_isEmptied_53 (fun c1 => absurd c1 (nI_ge (by omega) (by omega))) (fun _ => ?_)
    refine e_La_isEmptied_56 rfl ?_
    refine e_La_isEmptied_57 h1 rfl ?_
    refine e_La_isEmptied_60 rfl ?_
    refine e_La_isEmptied_62 k h2 rfl (map_get hr) (by rw [List.length_map]; omega) ?_
    refine e_La_isEmptied_63 e1.1 rfl ?_
    refine e_La_isEmptied_66 rfl ?_
    refine e_La_isEmptied_68 i1 (by decide) (c_Pa_isBelow e1.2.1 hq ok.s sq) (kp ?_) xn
    by_cases g1 : bw es[k].1 q
    · rw [if_pos g1] at he
      rw [if_pos g1]
      refine e_La_isEmptied_71 (fun c1 => absurd c1 (by decide)) (fun _ => ?_)
      refine e_La_isEmptied_74 rfl ?_
      refine e_La_isEmptied_75 h1 rfl ?_
      refine e_La_isEmptied_78 rfl ?_
      refine e_La_isEmptied_80 k h2 rfl (map_get hr) (by rw [List.length_map]; omega) ?_
      refine e_La_isEmptied_81 e1.1 rfl ?_
      refine e_La_isEmptied_84 (Nat.le_of_ble_eq_true rfl) ?_
      refine e_La_isEmptied_86 rfl ?_
      refine e_La_isEmptied_88 i1 (by decide) (c_Pa_shorter e1.2.1 ok.n) (kp ?_) xn
      have hsl : sh es[k].1 < 2 ^ 31 := by
        have := shl_le es[k].1 (es[k].1.length - 1)
        have := e1.2.1.len
        unfold sh
        omega
      refine e_La_isEmptied_91 rfl ?_
      refine e_La_isEmptied_93 iq rfl ?_
      by_cases g2 : sh es[k].1 = q.length
      · rw [if_pos g2] at he
        rw [g2]
        refine e_La_isEmptied_96 (fun c1 => absurd rfl c1) (fun _ => ?_)
        refine e_La_isEmptied_99 rfl ?_
        refine e_La_isEmptied_100 rfl ?_
        refine e_La_isEmptied_102 k1 (by decide) (c_Tr_find hu (oks hs2) e1.2.1 ok.s) (kp ?_) xn
        refine e_La_isEmptied_105  ?_
        refine e_La_isEmptied_106 (fun c1 => ?_) (fun c1 => ?_)
        · have g3 := (ox_m1 (fx_small hu)).mp c1
          rw [if_pos g3] at he
          have := hi' (n + 1) (some (.ref (r + 1))) (by omega) he
          rw [nI_succ] at this
          refine e_La_isEmptied_111 rfl ?_
          refine e_La_isEmptied_114 rfl ?_
          refine e_La_isEmptied_117  ?_
          exact this
        · have g3 : ¬ fx fs es[k].1 = none := fun w => c1 ((ox_m1 (fx_small hu)).mpr w)
          rw [if_neg g3] at he
          refine e_La_isEmptied_109  ?_
          exact e_La_isEmptied_110 (Or.inl rfl) ⟨by rw [hR, he, if_neg (show ¬ emo none = true from by decide)], rfl⟩
      · rw [if_neg g2] at he
        refine e_La_isEmptied_96 (fun _ => ?_) (fun c1 => absurd ((nI_eq hsl (by omega)).mp c1) g2)
        refine e_La_isEmptied_114 rfl ?_
        refine e_La_isEmptied_117  ?_
        exact hi' n _ (by omega) he
    · rw [if_neg g1] at he
      rw [if_neg g1]
      refine e_La_isEmptied_71 (fun _ => ?_) (fun c1 => absurd rfl c1)
      exact fin n (by omega) he _ rfl
theorem c_La_isEmptied (ht : tr h t es) (hu : tr h u fs) (hs : ∀ f ∈ es, okE f) (hs2 : ∀ f ∈ fs, okE f) (hi : es[i]? = some f) (hj : fs[j]? = some g) : tv_Ct G mm_La_isEmptied [.ref t, .int (nI i), .ref u, .int (nI j)] h 0 0 (rv (.int (if emt f g (es.drop (i + 1)) fs then 1 else 0)) (fun h' => h' = h)) := by
  have hl := ht.len
  have hl2 := hu.len
  have hil := (List.getElem?_eq_some_iff.mp hi).1
  have hjl := (List.getElem?_eq_some_iff.mp hj).1
  obtain ⟨rs, h1, h2, h3, h4⟩ := ht.row
  obtain ⟨us, k1, k2, k3, k4⟩ := hu.row
  obtain ⟨r, hr, e1⟩ := h4 i _ hi
  obtain ⟨w, hw, e2⟩ := k4 j _ hj
  have of := hs f (List.mem_of_getElem? hi)
  have no : ¬ (f.2.1 = 1 ∧ g.2.1 = 1) → ∀ ls, tv_Ev G mm_La_isEmptied 26 ls [] h 0 0 (rv (.int (if emt f g (es.drop (i + 1)) fs then 1 else 0)) (fun h' => h' = h)) := by
    intro hne ls
    refine e_La_isEmptied_26  ?_
    exact e_La_isEmptied_27 (Or.inl rfl) ⟨by rw [if_neg (fun q => hne ⟨q.1, q.2.1⟩)], rfl⟩
  refine tv_ct rfl (by decide +kernel) (by simp [Value.category]) (Nat.le_of_ble_eq_true rfl) ?_
  refine e_La_isEmptied_0 rfl ?_
  refine e_La_isEmptied_1 h1 rfl ?_
  refine e_La_isEmptied_4 rfl ?_
  refine e_La_isEmptied_5 i h2 rfl (map_get hr) (by rw [List.length_map]; omega) ?_
  refine e_La_isEmptied_6 e1.1 rfl ?_
  refine e_La_isEmptied_9  ?_
  refine e_La_isEmptied_10 (fun c1 => no (fun q => c1 q.1) _) (fun c1 => ?_)
  refine e_La_isEmptied_13 rfl ?_
  refine e_La_isEmptied_14 k1 rfl ?_
  refine e_La_isEmptied_17 rfl ?_
  refine e_La_isEmptied_18 j k2 rfl (map_get hw) (by rw [List.length_map]; omega) ?_
  refine e_La_isEmptied_19 e2.1 rfl ?_
  refine e_La_isEmptied_22  ?_
  refine e_La_isEmptied_23 (fun c2 => ?_) (fun c2 => no (fun q => c2 q.2) _)
  refine e_La_isEmptied_28 rfl ?_
  refine e_La_isEmptied_29 h1 rfl ?_
  refine e_La_isEmptied_32 rfl ?_
  refine e_La_isEmptied_33 i h2 rfl (map_get hr) (by rw [List.length_map]; omega) ?_
  refine e_La_isEmptied_34 e1.1 rfl ?_
  refine e_La_isEmptied_37 (Nat.le_of_ble_eq_true rfl) ?_
  refine e_La_isEmptied_39  ?_
  refine e_La_isEmptied_40 (Nat.le_of_ble_eq_true rfl) ?_
  refine e_La_isEmptied_42 rfl ?_
  refine e_La_isEmptied_43  ?_
  refine e_La_isEmptied_44  ?_
  refine e_La_isEmptied_45 (Nat.le_of_ble_eq_true rfl) ?_
  have hR : (if emt f g (es.drop (i + 1)) fs then (1 : Int32) else 0) = if emo (emw f.1 fs (es.drop (i + 1)) 0) = true then 1 else 0 := by
    by_cases q : emo (emw f.1 fs (es.drop (i + 1)) 0) = true
    · rw [if_pos q, if_pos ⟨c1, c2, q⟩]
    · rw [if_neg q, if_neg (fun w => q w.2.2)]
  have := l_La_isEmptied (G := G) (c := 0) (z := 0) (i := i) (j := j) ht hu hs hs2 e1.2.1 of.s hR (es.length - (i + 1)) (i + 1) (by omega) 0 none (by omega) rfl
  rw [nI_succ i] at this
  exact this
end
