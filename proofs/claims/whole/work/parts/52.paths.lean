/-! paths: what is below what -/
theorem bw_iff {p q : List Nat} : bw p q ↔ ∃ r, p = q ++ 47 :: r := by
  constructor
  · rintro ⟨h1, h2⟩
    refine ⟨p.drop (q.length + 1), ?_⟩
    rw [← drop_g h1]
    have := List.take_append_drop q.length p
    rw [h2] at this
    exact this.symm
  · rintro ⟨r, rfl⟩
    refine ⟨?_, List.take_left⟩
    rw [List.getElem?_append_right (Nat.le_refl _), Nat.sub_self]
    rfl
theorem bw_trans {p q r : List Nat} (h1 : bw p q) (h2 : bw q r) : bw p r := by
  obtain ⟨a, rfl⟩ := bw_iff.mp h1
  obtain ⟨b, rfl⟩ := bw_iff.mp h2
  exact bw_iff.mpr ⟨b ++ 47 :: a, by simp⟩
theorem bw_lt {p q : List Nat} (h : bw p q) : q < p := by
  obtain ⟨a, rfl⟩ := bw_iff.mp h
  induction q with
  | nil => exact List.nil_lt_cons _ _
  | cons c q ih =>
    rw [List.cons_append, List.cons_lt_cons_iff]
    exact Or.inr ⟨rfl, ih (bw_iff.mpr ⟨a, rfl⟩)⟩
theorem bw_len {p q : List Nat} (h : bw p q) : q.length < p.length := by
  obtain ⟨a, rfl⟩ := bw_iff.mp h
  rw [List.length_append, List.length_cons]
  omega
/-- what is between a path and one below it is below it -/
theorem btw : ∀ {u y x : List Nat}, u < y → y < x → bw x u → (∀ c ∈ y, 47 ≤ c) → bw y u := by
  intro u
  induction u with
  | nil =>
    intro y x h1 h2 hb hy
    obtain ⟨a, rfl⟩ := bw_iff.mp hb
    cases y with
    | nil => exact absurd h1 (List.not_lt_nil _)
    | cons c y =>
      have h3 := hy c List.mem_cons_self
      rw [List.nil_append, List.cons_lt_cons_iff] at h2
      rcases h2 with h2 | ⟨h2, -⟩
      · omega
      · exact bw_iff.mpr ⟨y, by rw [h2]; rfl⟩
  | cons d u ih =>
    intro y x h1 h2 hb hy
    obtain ⟨a, rfl⟩ := bw_iff.mp hb
    cases y with
    | nil => exact absurd h1 (List.not_lt_nil _)
    | cons c y =>
      rw [List.cons_lt_cons_iff] at h1
      rw [List.cons_append, List.cons_lt_cons_iff] at h2
      rcases h1 with h1 | ⟨rfl, h1⟩
      · rcases h2 with h2 | ⟨h2, -⟩ <;> omega
      · rcases h2 with h2 | ⟨-, h2⟩
        · omega
        · obtain ⟨b, rfl⟩ := bw_iff.mp (ih h1 h2 (bw_iff.mpr ⟨a, rfl⟩) (fun c hc => hy c (List.mem_cons_of_mem _ hc)))
          exact bw_iff.mpr ⟨b, rfl⟩
theorem wa_ge : ∀ {p : List Nat} {n m : Nat}, wa n p = some m → ∀ c ∈ p, 47 ≤ c := by
  intro p
  induction p with
  | nil => intro n m _ c hc; cases hc
  | cons d p ih =>
    intro n m h
    rw [wa] at h
    have hd : 47 ≤ d ∧ ∃ n', wa n' p = some m := by
      split at h
      · rename_i g; exact ⟨by omega, _, h⟩
      · split at h
        · rename_i g; exact ⟨by rcases g.1 with q | q <;> omega, _, h⟩
        · cases h
    obtain ⟨h1, n', h2⟩ := hd
    intro c hc
    rcases List.mem_cons.mp hc with g | g
    · rw [g]; exact h1
    · exact ih h2 c g
theorem wf_wa {p : List Nat} (h : wf p = true) : ∃ m, wa 0 p = some m ∧ 0 < m ∧ nms p ≤ 4 := by
  unfold wf at h
  split at h
  · rename_i n h1
    simp at h
    exact ⟨n, h1, h.1, h.2⟩
  · cases h
theorem wa_wf {p : List Nat} {m : Nat} (h1 : wa 0 p = some m) (h2 : 0 < m) (h3 : nms p ≤ 4) : wf p = true := by
  unfold wf
  rw [h1]
  simp
  exact ⟨h2, h3⟩
theorem wf_ge {p : List Nat} (h : wf p = true) : ∀ c ∈ p, 47 ≤ c := by
  obtain ⟨m, h1, -⟩ := wf_wa h
  exact wa_ge h1
theorem wa_len : ∀ {p : List Nat} {n m : Nat}, wa n p = some m → n ≤ 4 → n + p.length ≤ 5 * p.count 47 + m ∧ m ≤ 4 := by
  intro p
  induction p with
  | nil =>
    intro n m h hn
    rw [wa] at h
    have := Option.some.inj h
    simp
    omega
  | cons d p ih =>
    intro n m h hn
    rw [wa] at h
    rw [List.length_cons, List.count_cons]
    split at h
    · rename_i g
      have := ih h (by omega)
      rw [if_pos (by simpa using g.1)]
      omega
    · rename_i g
      split at h
      · rename_i g2
        have := ih h (by omega)
        have h47 : ¬ d = 47 := by rintro rfl; rcases g2.1 with q | q <;> omega
        rw [if_neg (by simpa using h47)]
        omega
      · cases h
theorem wf_len {p : List Nat} (h : wf p = true) : p.length ≤ 19 := by
  have hne := wf_ne h
  obtain ⟨m, h1, h2, h3⟩ := wf_wa h
  have := wa_len h1 (by omega)
  unfold nms at h3
  rw [if_neg hne] at h3
  omega
theorem nms_c {p : List Nat} (h : p ≠ []) : nms p = p.count 47 + 1 := by unfold nms; rw [if_neg h]
/-- the last sign 47 -/
theorem shl_spec (p : List Nat) : ∀ k, (shl p k = 0 ∧ ∀ m, 0 < m → m ≤ k → p[m]? ≠ some 47) ∨ (0 < shl p k ∧ shl p k ≤ k ∧ p[shl p k]? = some 47 ∧ ∀ m, shl p k < m → m ≤ k → p[m]? ≠ some 47)
  | 0 => Or.inl ⟨rfl, fun m h1 h2 => by omega⟩
  | k + 1 => by
    rw [shl]
    split
    · rename_i h
      exact Or.inr ⟨by omega, Nat.le_refl _, h, fun m h1 h2 => by omega⟩
    · rename_i h
      rcases shl_spec p k with ⟨h1, h2⟩ | ⟨h1, h2, h3, h4⟩
      · refine Or.inl ⟨h1, fun m a b => ?_⟩
        rcases Nat.lt_or_ge k m with w | w
        · have : m = k + 1 := by omega
          rw [this]; exact h
        · exact h2 m a w
      · refine Or.inr ⟨h1, by omega, h3, fun m a b => ?_⟩
        rcases Nat.lt_or_ge k m with w | w
        · have : m = k + 1 := by omega
          rw [this]; exact h
        · exact h4 m a w
theorem sh_spec {p : List Nat} (h : sh p ≠ 0) : sh p < p.length ∧ p[sh p]? = some 47 ∧ ∀ m, sh p < m → p[m]? ≠ some 47 := by
  rcases shl_spec p (p.length - 1) with ⟨h1, -⟩ | ⟨h1, h2, h3, h4⟩
  · exact absurd h1 h
  · have hl := (List.getElem?_eq_some_iff.mp h3).1
    refine ⟨hl, h3, fun m hm => ?_⟩
    rcases Nat.lt_or_ge m p.length with w | w
    · exact h4 m hm (by omega)
    · rw [List.getElem?_eq_none w]; intro e; cases e
theorem sh_zero {p : List Nat} (h : sh p = 0) : ∀ m, 0 < m → p[m]? ≠ some 47 := by
  rcases shl_spec p (p.length - 1) with ⟨-, h2⟩ | ⟨h1, -⟩
  · intro m hm
    rcases Nat.lt_or_ge m p.length with w | w
    · exact h2 m hm (by omega)
    · rw [List.getElem?_eq_none w]; intro e; cases e
  · have : sh p = shl p (p.length - 1) := rfl
    omega
theorem sh_eq {p : List Nat} {k : Nat} (h0 : 0 < k) (h1 : p[k]? = some 47) (h2 : ∀ m, k < m → p[m]? ≠ some 47) : sh p = k := by
  by_cases h : sh p = 0
  · exact absurd h1 (sh_zero h k h0)
  · obtain ⟨-, h3, h4⟩ := sh_spec h
    rcases Nat.lt_trichotomy (sh p) k with w | w | w
    · exact absurd h1 (h4 k w)
    · exact w
    · exact absurd h3 (h2 _ w)
/-- the path one name shorter -/
abbrev par (p : List Nat) : List Nat := p.take (sh p)
theorem par_bw {p : List Nat} (h : sh p ≠ 0) : bw p (par p) := by
  obtain ⟨h1, h2, -⟩ := sh_spec h
  have hl : (par p).length = sh p := by rw [List.length_take]; omega
  exact ⟨by rw [hl]; exact h2, by rw [hl]⟩
theorem par_ne {p : List Nat} (h : sh p ≠ 0) : par p ≠ [] := by
  obtain ⟨h1, -⟩ := sh_spec h
  intro e
  have hl : (par p).length = sh p := by rw [List.length_take]; omega
  rw [e] at hl
  exact h hl.symm
theorem bw_sh {p u : List Nat} (hb : bw p u) (hu : u ≠ []) : sh p ≠ 0 ∧ u.length ≤ sh p := by
  have hpos : 0 < u.length := List.length_pos_iff.mpr hu
  have h0 : sh p ≠ 0 := fun e => sh_zero e u.length hpos hb.1
  refine ⟨h0, ?_⟩
  obtain ⟨-, -, h3⟩ := sh_spec h0
  rcases Nat.lt_or_ge (sh p) u.length with w | w
  · exact absurd hb.1 (h3 _ w)
  · exact w
/-- a path below u: one name more, or its shorter path is below u too -/
theorem bw_par {p u : List Nat} (hb : bw p u) (hu : u ≠ []) : (sh p = u.length ∧ par p = u) ∨ (sh p ≠ u.length ∧ bw (par p) u) := by
  obtain ⟨h0, hle⟩ := bw_sh hb hu
  obtain ⟨hl, -, -⟩ := sh_spec h0
  by_cases h : sh p = u.length
  · left
    refine ⟨h, ?_⟩
    unfold par
    rw [h]
    exact hb.2
  · right
    refine ⟨h, ?_, ?_⟩
    · unfold par
      rw [List.getElem?_take_of_lt (by omega)]
      exact hb.1
    · unfold par
      rw [List.take_take, Nat.min_eq_left (by omega)]
      exact hb.2
theorem par_self {p : List Nat} (h : sh p ≠ 0) : sh p = (par p).length := by
  obtain ⟨h1, -⟩ := sh_spec h
  rw [List.length_take]
  omega
/-- one name more, by counting -/
theorem sh_cnt {p u : List Nat} (hb : bw p u) (hu : u ≠ []) : sh p = u.length ↔ p.count 47 + 1 = u.count 47 + 1 + 1 := by
  have hpos : 0 < u.length := List.length_pos_iff.mpr hu
  obtain ⟨r, rfl⟩ := bw_iff.mp hb
  rw [List.count_append, List.count_cons_self]
  have key : sh (u ++ 47 :: r) = u.length ↔ 47 ∉ r := by
    constructor
    · intro h hm
      obtain ⟨k, hk⟩ := List.mem_iff_getElem?.mp hm
      obtain ⟨-, -, h3⟩ := sh_spec (p := u ++ 47 :: r) (by omega)
      refine h3 (u.length + (k + 1)) (by omega) ?_
      rw [List.getElem?_append_right (by omega), Nat.add_sub_cancel_left, List.getElem?_cons_succ]
      exact hk
    · intro hm
      refine sh_eq hpos ?_ (fun m hlt => ?_)
      · rw [List.getElem?_append_right (Nat.le_refl _), Nat.sub_self]; rfl
      · rw [List.getElem?_append_right (by omega), show m - u.length = (m - u.length - 1) + 1 by omega, List.getElem?_cons_succ]
        intro e
        exact hm (List.mem_of_getElem? e)
  rw [key]
  have : r.count 47 = 0 ↔ 47 ∉ r := List.count_eq_zero
  constructor
  · intro h
    have := this.mpr h
    omega
  · intro h
    exact this.mp (by omega)
section
variable {es : List tE}
theorem okT.e (h : okT es) {x : tE} (hx : x ∈ es) : okE x := h.1 x hx
/-- what is above an entry is a directory -/
theorem okT.up (h : okT es) : ∀ n (x : tE), x.1.length ≤ n → x ∈ es → ∀ u, u ≠ [] → bw x.1 u → ∃ g ∈ es, g.1 = u ∧ g.2.1 = 1 := by
  intro n
  induction n with
  | zero =>
    intro x hn _ u _ hb
    have := bw_len hb
    omega
  | succ n ih =>
    intro x hn hx u hu hb
    obtain ⟨h0, -⟩ := bw_sh hb hu
    obtain ⟨hl, -⟩ := sh_spec h0
    have hp : ∃ g ∈ es, g.1 = par x.1 ∧ g.2.1 = 1 := by
      rcases h.2.2 x hx with w | w
      · exact absurd w h0
      · exact (kx_1 h.2.1).mp w
    rcases bw_par hb hu with ⟨-, w⟩ | ⟨-, w⟩
    · rw [← w]; exact hp
    · obtain ⟨g, hg, hg1, hg2⟩ := hp
      refine ih g ?_ hg u hu (by rw [hg1]; exact w)
      rw [hg1, List.length_take]
      omega
theorem okT.above (h : okT es) {x : tE} (hx : x ∈ es) {u : List Nat} (hu : u ≠ []) (hb : bw x.1 u) : ∃ g ∈ es, g.1 = u ∧ g.2.1 = 1 := h.up x.1.length x (Nat.le_refl _) hx u hu hb
/-- between an entry and u above it an entry right below u -/
theorem okT.way (h : okT es) : ∀ n (x : tE), x.1.length ≤ n → x ∈ es → ∀ u, u ≠ [] → bw x.1 u → ∃ g ∈ es, bw g.1 u ∧ sh g.1 = u.length ∧ (g.1 = x.1 ∨ bw x.1 g.1) := by
  intro n
  induction n with
  | zero =>
    intro x hn _ u _ hb
    have := bw_len hb
    omega
  | succ n ih =>
    intro x hn hx u hu hb
    obtain ⟨h0, -⟩ := bw_sh hb hu
    obtain ⟨hl, -⟩ := sh_spec h0
    rcases bw_par hb hu with ⟨w, -⟩ | ⟨-, w⟩
    · exact ⟨x, hx, hb, w, Or.inl rfl⟩
    · have hp : ∃ g ∈ es, g.1 = par x.1 ∧ g.2.1 = 1 := by
        rcases h.2.2 x hx with w | w
        · exact absurd w h0
        · exact (kx_1 h.2.1).mp w
      obtain ⟨g, hg, hg1, -⟩ := hp
      obtain ⟨k, hk, k1, k2, k3⟩ := ih g (by rw [hg1, List.length_take]; omega) hg u hu (by rw [hg1]; exact w)
      refine ⟨k, hk, k1, k2, Or.inr ?_⟩
      have hxg : bw x.1 g.1 := by rw [hg1]; exact par_bw h0
      rcases k3 with w2 | w2
      · rw [w2]; exact hxg
      · exact bw_trans hxg w2
end
