/-! the reference: shift, become, insert, clear -/
/-- the same row -/
def rsm (M M' : mM) (r : Nat) : Prop := M' 1 r = M 1 r ∧ (∀ k, k < 20 → M' 0 (20 * r + k) = M 0 (20 * r + k)) ∧ M' 3 r = M 3 r ∧ M' 4 r = M 4 r ∧ ∀ k, k < 16 → M' 5 (16 * r + k) = M 5 (16 * r + k)
/-- nothing but the rows R and the counts C has changed -/
def km (R C : Nat → Prop) (M M' : mM) : Prop := (∀ r, ¬ R r → rsm M M' r) ∧ (∀ u, ¬ C u → M' 2 u = M 2 u) ∧ ∀ j, M' 6 j = M 6 j
abbrev no_ : Nat → Prop := fun _ => False
abbrev trs (t : Nat) : Nat → Prop := fun r => 40 * t ≤ r ∧ r < 40 * t + 40
theorem rsm.tr {M M1 M2 : mM} {r : Nat} (h1 : rsm M M1 r) (h2 : rsm M1 M2 r) : rsm M M2 r := ⟨h2.1.trans h1.1, fun k hk => (h2.2.1 k hk).trans (h1.2.1 k hk), h2.2.2.1.trans h1.2.2.1, h2.2.2.2.1.trans h1.2.2.2.1, fun k hk => (h2.2.2.2.2 k hk).trans (h1.2.2.2.2 k hk)⟩
section
variable {R C : Nat → Prop} {M M' M2 : mM}
theorem km.rf : km R C M M := ⟨fun _ _ => ⟨rfl, fun _ _ => rfl, rfl, rfl, fun _ _ => rfl⟩, fun _ _ => rfl, fun _ => rfl⟩
theorem km.tr (h1 : km R C M M') (h2 : km R C M' M2) : km R C M M2 := ⟨fun r hr => (h1.1 r hr).tr (h2.1 r hr), fun u hu => (h2.2.1 u hu).trans (h1.2.1 u hu), fun j => (h2.2.2 j).trans (h1.2.2 j)⟩
theorem km.mono {R' C' : Nat → Prop} (h : km R C M M') (hr : ∀ r, R r → R' r) (hc : ∀ u, C u → C' u) : km R' C' M M' := ⟨fun r w => h.1 r (fun q => w (hr r q)), fun u w => h.2.1 u (fun q => w (hc u q)), h.2.2⟩
theorem km.p {r : Nat} {p : List Nat} (h : km R C M M') (hr : ¬ R r) (hp : mp M r p) : mp M' r p := hp.k (h.1 r hr).1 (h.1 r hr).2.1
theorem km.e {r : Nat} {f : tE} (h : km R C M M') (hr : ¬ R r) (hp : me M r f) : me M' r f := hp.k (h.1 r hr).1 (h.1 r hr).2.1 (h.1 r hr).2.2.1 (h.1 r hr).2.2.2.1 (h.1 r hr).2.2.2.2
theorem km.t {u : Nat} {es : List tE} (h : km R C M M') (hc : ¬ C u) (hr : ∀ i, i < 40 → ¬ R (40 * u + i)) (ht : mt M u es) : mt M' u es := by
  refine ⟨(h.2.1 u hc).trans ht.1, ht.2.1, fun i f hi => h.e (hr i ?_) (ht.2.2 i f hi)⟩
  have := (List.getElem?_eq_some_iff.mp hi).1
  have := ht.2.1
  omega
theorem km.cp {f t : Nat} : km (fun r => r = t) C M (cpM M f t) := by
  refine ⟨fun r hr => ⟨?_, fun k hk => ?_, cp_o (by decide), cp_o (by decide), fun _ _ => cp_o (by decide)⟩, fun _ _ => cp_o (by decide), fun _ => cp_o (by decide)⟩
  · unfold cpM; rw [if_neg (by omega), if_neg (by omega)]
  · unfold cpM; rw [if_neg (by omega), if_neg (by omega)]
theorem km.mu1 {t : Nat} {v : Int32} : km (fun r => r = t) C M (mu M 1 t v) := ⟨fun r hr => ⟨mu_ne (by omega), fun _ _ => mu_ne (by omega), mu_ne (by omega), mu_ne (by omega), fun _ _ => mu_ne (by omega)⟩, fun _ _ => mu_ne (by omega), fun _ => mu_ne (by omega)⟩
theorem km.mu3 {t : Nat} {v : Int32} : km (fun r => r = t) C M (mu M 3 t v) := ⟨fun r hr => ⟨mu_ne (by omega), fun _ _ => mu_ne (by omega), mu_ne (by omega), mu_ne (by omega), fun _ _ => mu_ne (by omega)⟩, fun _ _ => mu_ne (by omega), fun _ => mu_ne (by omega)⟩
theorem km.mu4 {t : Nat} {v : Int32} : km (fun r => r = t) C M (mu M 4 t v) := ⟨fun r hr => ⟨mu_ne (by omega), fun _ _ => mu_ne (by omega), mu_ne (by omega), mu_ne (by omega), fun _ _ => mu_ne (by omega)⟩, fun _ _ => mu_ne (by omega), fun _ => mu_ne (by omega)⟩
theorem km.mu2 {t : Nat} {v : Int32} : km R (fun u => u = t) M (mu M 2 t v) := ⟨fun r hr => ⟨mu_ne (by omega), fun _ _ => mu_ne (by omega), mu_ne (by omega), mu_ne (by omega), fun _ _ => mu_ne (by omega)⟩, fun u hu => mu_ne (fun q => hu q.2), fun _ => mu_ne (by omega)⟩
theorem km.mu0 {t k : Nat} {v : Int32} (hk : k < 20) : km (fun r => r = t) C M (mu M 0 (20 * t + k) v) := ⟨fun r hr => ⟨mu_ne (by omega), fun _ _ => mu_ne (by omega), mu_ne (by omega), mu_ne (by omega), fun _ _ => mu_ne (by omega)⟩, fun _ _ => mu_ne (by omega), fun _ => mu_ne (by omega)⟩
theorem km.mu5 {t k : Nat} {v : Int32} (hk : k < 16) : km (fun r => r = t) C M (mu M 5 (16 * t + k) v) := ⟨fun r hr => ⟨mu_ne (by omega), fun _ _ => mu_ne (by omega), mu_ne (by omega), mu_ne (by omega), fun _ _ => mu_ne (by omega)⟩, fun _ _ => mu_ne (by omega), fun _ => mu_ne (by omega)⟩
theorem km.sh {r : Nat} {p : List Nat} : km (fun r => r = 123) C M (shM M r p) := km.cp.tr km.mu1
end
/-- k bytes of the row f come to the row t -/
def sfK (M : mM) (f t k : Nat) : mM := fun b j => if b = 5 ∧ 16 * t ≤ j ∧ j < 16 * t + k then M 5 (16 * f + (j - 16 * t)) else M b j
def sfM (M : mM) (f t : Nat) : mM := sfK (mu (mu (cpM M f t) 3 t (M 3 f)) 4 t (mu (cpM M f t) 3 t (M 3 f) 4 f)) f t 16
theorem sfK_s (M : mM) (f t k : Nat) (hk : k < 16) : mu (sfK M f t k) 5 (16 * t + k) (sfK M f t k 5 (16 * f + k)) = sfK M f t (k + 1) := by
  have e0 : sfK M f t k 5 (16 * f + k) = M 5 (16 * f + k) := by
    unfold sfK
    by_cases e : 5 = 5 ∧ 16 * t ≤ 16 * f + k ∧ 16 * f + k < 16 * t + k
    · exfalso
      omega
    · rw [if_neg e]
  rw [e0]
  funext b j
  by_cases e : b = 5 ∧ j = 16 * t + k
  · obtain ⟨rfl, rfl⟩ := e
    rw [mu_at]
    unfold sfK
    rw [if_pos ⟨rfl, by omega, by omega⟩, show 16 * f + (16 * t + k - 16 * t) = 16 * f + k by omega]
  · rw [mu_ne e]
    unfold sfK
    by_cases e2 : b = 5 ∧ 16 * t ≤ j ∧ j < 16 * t + k
    · rw [if_pos e2, if_pos ⟨e2.1, e2.2.1, by omega⟩]
    · rw [if_neg e2, if_neg (by omega)]
theorem km.sf {C : Nat → Prop} {M : mM} {f t : Nat} : km (fun r => r = t) C M (sfM M f t) := by
  have h0 : km (fun r => r = t) C M (mu (mu (cpM M f t) 3 t (M 3 f)) 4 t (mu (cpM M f t) 3 t (M 3 f) 4 f)) := km.cp.tr (km.mu3.tr km.mu4)
  refine h0.tr ?_
  refine ⟨fun r hr => ⟨?_, fun k hk => ?_, ?_, ?_, fun k hk => ?_⟩, fun u hu => ?_, fun j => ?_⟩ <;> unfold sfM sfK <;> rw [if_neg (by omega)]
theorem sf_at {M : mM} {f t : Nat} {e : tE} (h : me M f e) : me (sfM M f t) t e := by
  have e1 : ∀ b j, b ≠ 5 → sfM M f t b j = mu (mu (cpM M f t) 3 t (M 3 f)) 4 t (mu (cpM M f t) 3 t (M 3 f) 4 f) b j := by
    intro b j hb
    unfold sfM sfK
    rw [if_neg (by omega)]
  have hp := cp_at (t := t) h.1
  refine ⟨hp.k ?_ (fun k hk => ?_), ?_, ?_, h.2.2.2.1, fun k c hk => ?_⟩
  · rw [e1 _ _ (by decide), mu_ne (by omega), mu_ne (by omega)]
  · rw [e1 _ _ (by decide), mu_ne (by omega), mu_ne (by omega)]
  · rw [e1 _ _ (by decide), mu_ne (by omega), mu_at]
    exact h.2.1
  · rw [e1 _ _ (by decide), mu_at, mu_ne (by omega), cp_o (by decide)]
    exact h.2.2.1
  · have := (List.getElem?_eq_some_iff.mp hk).1
    have := h.2.2.2.1
    unfold sfM sfK
    rw [if_pos ⟨rfl, by omega, by omega⟩, show 16 * f + (16 * t + k - 16 * t) = 16 * f + k by omega, mu_ne (by omega), mu_ne (by omega), cp_o (by decide)]
    exact h.2.2.2.2 k c hk
theorem sf_e {M : mM} {f t r : Nat} {e : tE} (h : me M r e) (hr : r ≠ t) : me (sfM M f t) r e := km.e (C := no_) km.sf hr h
section
variable {G : tv_G} {h h' : tv_H} {th us : Int32} {M : mM} {c z a b r t : Nat} {p q : List Nat} {es : List tE}
theorem l_Mo_shift (ha : a < 120) (hb : b < 120) : ∀ j k, j + k = 16 → ∀ hc, mh hc th us (sfK M a b k) → fr mS h hc → tv_Ev G mm_Mo_shift 32 [some (.ref 497), some (.int (nI a)), some (.int (nI b)), some (.int (nI k))] [] hc c z (rn (fun h' => mh h' th us (sfK M a b 16) ∧ fr mS h h')) := by
  intro j
  induction j with
  | zero =>
    intro k hk hc hm hf
    have hk : k = 16 := by omega
    subst hk
    refine e_Mo_shift_32 rfl ?_
    refine e_Mo_shift_33  ?_
    refine e_Mo_shift_35 (fun _ => ?_) (fun c1 => absurd (by decide) c1)
    exact e_Mo_shift_66 ⟨rfl, hm, hf⟩
  | succ j ih =>
    intro k hk hc hm hf
    refine e_Mo_shift_32 rfl ?_
    refine e_Mo_shift_33  ?_
    refine e_Mo_shift_35 (fun c1 => absurd c1 (nI_ge (b := 16) (by omega) (by decide))) (fun _ => ?_)
    refine e_Mo_shift_38 rfl ?_
    refine e_Mo_shift_39 hm.1 rfl ?_
    refine e_Mo_shift_42  ?_
    refine e_Mo_shift_44 rfl ?_
    refine e_Mo_shift_45  ?_
    refine e_Mo_shift_46 rfl ?_
    refine e_Mo_shift_47  ?_
    refine e_Mo_shift_48 rfl ?_
    refine e_Mo_shift_49 hm.1 rfl ?_
    refine e_Mo_shift_52  ?_
    refine e_Mo_shift_54 rfl ?_
    refine e_Mo_shift_55  ?_
    refine e_Mo_shift_56 rfl ?_
    refine e_Mo_shift_57  ?_
    refine e_Mo_shift_58 (16 * a + k) hm.a5 (ix16 _ _) (md (a := 5) (show 16 * a + k < 1920 by omega)) mlen ?_
    refine e_Mo_shift_59 (16 * b + k) hm.a5 (ix16 _ _) (ml (a := 5) (show 16 * b + k < 1920 by omega)) mlen ?_
    have hm2 := hm.s5 (i := 16 * b + k) (v := sfK M a b k 5 (16 * a + k))
    rw [sfK_s _ _ _ _ (by omega)] at hm2
    refine e_Mo_shift_60 rfl ?_
    refine e_Mo_shift_63  ?_
    have := ih (k + 1) (by omega) _ hm2 (hf.tr (fr.set ⟨by omega, by omega⟩))
    rw [nI_succ] at this
    exact this
theorem c_Mo_shift (hm : mh h th us M) (ha : a < 120) (hb : b < 120) : tv_Ct G mm_Mo_shift [.ref 497, .int (nI a), .int (nI b)] h 0 0 (rn (fun h' => mh h' th us (sfM M a b) ∧ fr mS h h')) := by
  refine tv_ct rfl (by decide +kernel) (by simp [Value.category]) (Nat.le_of_ble_eq_true rfl) ?_
  refine e_Mo_shift_0 rfl ?_
  refine e_Mo_shift_1 rfl ?_
  refine e_Mo_shift_2 rfl ?_
  refine e_Mo_shift_3 hm.1 (by decide) (c_Mo_copyPath hm (a := a) (b := b) (by omega) (by omega)) (kn ?_) xn
  rintro h2 ⟨hm2, f2⟩
  refine e_Mo_shift_6 rfl ?_
  refine e_Mo_shift_7 hm2.1 rfl ?_
  refine e_Mo_shift_10 rfl ?_
  refine e_Mo_shift_11 rfl ?_
  refine e_Mo_shift_12 hm2.1 rfl ?_
  refine e_Mo_shift_15 rfl ?_
  refine e_Mo_shift_16 (a) hm2.a3 rfl (md (a := 3) (show a < 120 by omega)) mlen ?_
  refine e_Mo_shift_17 (b) hm2.a3 rfl (ml (a := 3) (show b < 120 by omega)) mlen ?_
  rw [cp_o (by decide)]
  have hm3 := hm2.s3 (i := b) (v := M 3 a)
  refine e_Mo_shift_18 rfl ?_
  refine e_Mo_shift_19 hm3.1 rfl ?_
  refine e_Mo_shift_22 rfl ?_
  refine e_Mo_shift_23 rfl ?_
  refine e_Mo_shift_24 hm3.1 rfl ?_
  refine e_Mo_shift_27 rfl ?_
  refine e_Mo_shift_28 (a) hm3.a4 rfl (md (a := 4) (show a < 120 by omega)) mlen ?_
  refine e_Mo_shift_29 (b) hm3.a4 rfl (ml (a := 4) (show b < 120 by omega)) mlen ?_
  have hm4 := hm3.s4 (i := b) (v := mu (cpM M a b) 3 b (M 3 a) 4 a)
  refine e_Mo_shift_30  ?_
  refine e_Mo_shift_31 (Nat.le_of_ble_eq_true rfl) ?_
  refine l_Mo_shift (M := mu (mu (cpM M a b) 3 b (M 3 a)) 4 b (mu (cpM M a b) 3 b (M 3 a) 4 a)) ha hb 16 0 rfl _ ?_ ((f2.tr (fr.set ⟨by omega, by omega⟩)).tr (fr.set ⟨by omega, by omega⟩))
  have e1 : ∀ M : mM, sfK M a b 0 = M := by
    intro M
    funext d j
    unfold sfK
    rw [if_neg (by omega)]
  rw [e1]
  exact hm4
theorem l_Mo_become (ha : a < 3) (hb : b < 3) : ∀ j k, j + k = es.length → ∀ hc M', mh hc th us M' → fr mS h hc → mt M' a es → (∀ i f, i < k → es[i]? = some f → me M' (40 * b + i) f) → km (trs b) (fun u => u = b) M M' → tv_Ev G mm_Mo_become 2 [some (.ref 497), some (.int (nI a)), some (.int (nI b)), some (.int (nI k))] [] hc c z (rn (fun h' => (∃ M', mh h' th us M' ∧ mt M' b es ∧ km (trs b) (fun u => u = b) M M') ∧ fr mS h h')) := by
  intro j
  induction j with
  | zero =>
    intro k hk hc M' hm hf hta htb hk2
    have hk : k = es.length := by omega
    subst hk
    have hl := hta.2.1
    refine e_Mo_become_2 rfl ?_
    refine e_Mo_become_3 rfl ?_
    refine e_Mo_become_4 hm.1 rfl ?_
    refine e_Mo_become_7 rfl ?_
    refine e_Mo_become_8 (a) hm.a2 rfl (md (a := 2) (show a < 3 by omega)) mlen ?_
    rw [hta.1]
    refine e_Mo_become_9 (fun _ => ?_) (fun c1 => absurd (nI_le (Nat.le_refl _) (by omega)) c1)
    refine e_Mo_become_34 rfl ?_
    refine e_Mo_become_35 hm.1 rfl ?_
    refine e_Mo_become_38 rfl ?_
    refine e_Mo_become_39 rfl ?_
    refine e_Mo_become_40 hm.1 rfl ?_
    refine e_Mo_become_43 rfl ?_
    refine e_Mo_become_44 (a) hm.a2 rfl (md (a := 2) (show a < 3 by omega)) mlen ?_
    refine e_Mo_become_45 (b) hm.a2 rfl (ml (a := 2) (show b < 3 by omega)) mlen ?_
    refine e_Mo_become_46 ⟨rfl, ⟨_, hm.s2, ⟨?_, hl, fun i f hi => ?_⟩, hk2.tr km.mu2⟩, hf.tr (fr.set ⟨by omega, by omega⟩)⟩
    · rw [mu_at]; exact hta.1
    · exact km.e (R := no_) (C := fun u => u = b) km.mu2 (fun q => q) (htb i f (List.getElem?_eq_some_iff.mp hi).1 hi)
  | succ j ih =>
    intro k hk hc M' hm hf hta htb hk2
    have hl := hta.2.1
    have hek : es[k]? = some es[k] := List.getElem?_eq_getElem (by omega)
    have hmk := hta.2.2 k _ hek
    refine e_Mo_become_2 rfl ?_
    refine e_Mo_become_3 rfl ?_
    refine e_Mo_become_4 hm.1 rfl ?_
    refine e_Mo_become_7 rfl ?_
    refine e_Mo_become_8 (a) hm.a2 rfl (md (a := 2) (show a < 3 by omega)) mlen ?_
    rw [hta.1]
    refine e_Mo_become_9 (fun c1 => absurd c1 (nI_ge (by omega) (by omega))) (fun _ => ?_)
    refine e_Mo_become_12 rfl ?_
    refine e_Mo_become_13  ?_
    refine e_Mo_become_15 rfl ?_
    refine e_Mo_become_16  ?_
    refine e_Mo_become_17 rfl ?_
    refine e_Mo_become_18  ?_
    refine e_Mo_become_19  ?_
    refine e_Mo_become_21 rfl ?_
    refine e_Mo_become_22  ?_
    refine e_Mo_become_23 rfl ?_
    refine e_Mo_become_24  ?_
    rw [ix40, ix40]
    refine e_Mo_become_25 hm.1 (by decide) (c_Mo_shift hm (by omega) (by omega)) (kn ?_) xn
    rintro hd ⟨hmd, fd⟩
    refine e_Mo_become_28 rfl ?_
    refine e_Mo_become_31  ?_
    have ks : km (fun r => r = 40 * b + k) (fun u => u = b) M' (sfM M' (40 * a + k) (40 * b + k)) := km.sf
    have := ih (k + 1) (by omega) hd _ hmd (hf.tr fd) ⟨(km.sf (C := no_)).2.1 a (fun q => q) |>.trans hta.1, hl, fun i f hi => ?_⟩ (fun i f hi he => ?_) (hk2.tr (ks.mono (by rintro r rfl; exact ⟨by omega, by omega⟩) (fun _ q => q)))
    · rw [nI_succ] at this
      exact this
    · have hil := (List.getElem?_eq_some_iff.mp hi).1
      by_cases e : 40 * a + i = 40 * b + k
      · have hab : a = b := by omega
        have hik : i = k := by omega
        subst hik
        subst hab
        rw [hek] at hi
        rw [← Option.some.inj hi]
        exact sf_at hmk
      · exact sf_e (hta.2.2 i f hi) e
    · by_cases e : i = k
      · subst e
        rw [hek] at he
        rw [← Option.some.inj he]
        exact sf_at hmk
      · exact sf_e (htb i f (by omega) he) (by omega)
theorem c_Mo_become (hm : mh h th us M) (ha : a < 3) (hb : b < 3) (hta : mt M a es) : tv_Ct G mm_Mo_become [.ref 497, .int (nI a), .int (nI b)] h 0 0 (rn (fun h' => (∃ M', mh h' th us M' ∧ mt M' b es ∧ km (trs b) (fun u => u = b) M M') ∧ fr mS h h')) := by
  refine tv_ct rfl (by decide +kernel) (by simp [Value.category]) (Nat.le_of_ble_eq_true rfl) ?_
  refine e_Mo_become_0  ?_
  refine e_Mo_become_1 (Nat.le_of_ble_eq_true rfl) ?_
  exact l_Mo_become ha hb es.length 0 rfl h M hm fr.rf hta (fun i f hi => by omega) km.rf
/-- how many entries at the beginning stand before a path -/
def fi (es : List tE) (q : List Nat) : Nat := match es with
  | [] => 0
  | e :: r => if e.1 < q then fi r q + 1 else 0
theorem fi_le (es : List tE) (q : List Nat) : fi es q ≤ es.length := by
  induction es with
  | nil => exact Nat.le_refl _
  | cons e r ih =>
    rw [fi]
    split
    · rw [List.length_cons]; omega
    · omega
theorem iat_get {es : List tE} {k : Nat} (hk : k ≤ es.length) {f : tE} (j : Nat) : (iat es k f)[j]? = if j < k then es[j]? else if j = k then some f else es[j - 1]? := by
  have hlt : (es.take k).length = k := by rw [List.length_take]; omega
  unfold iat
  by_cases h1 : j < k
  · rw [if_pos h1, List.getElem?_append_left (by omega), List.getElem?_take_of_lt h1]
  · rw [if_neg h1, List.getElem?_append_right (by omega), hlt]
    by_cases h2 : j = k
    · rw [if_pos h2, h2, Nat.sub_self]; rfl
    · rw [if_neg h2, show j - k = (j - 1 - k) + 1 by omega, List.getElem?_cons_succ, List.getElem?_drop, show k + (j - 1 - k) = j - 1 by omega]
theorem iat_len {es : List tE} {k : Nat} (hk : k ≤ es.length) {f : tE} : (iat es k f).length = es.length + 1 := by
  unfold iat
  simp
  omega
theorem l_Mo_insert1 {kd : Int32} {Q : tv_R → tv_H → Prop} (hm : mh h th us M) (ht : t < 3) (hr : r < 124) (hes : mt M t es) (hq : mp M r q) (ss : sme es) (sq : sm q) (hk : ∀ g, tv_Ev G mm_Mo_insert 38 [some (.ref 497), some (.int (nI t)), some (.int (nI r)), some (.int kd), some (.int (nI (40 * t + fi es q))), g] [] h c z Q) : ∀ j k, j + k = es.length → fi es q = k + fi (es.drop k) q → ∀ g, tv_Ev G mm_Mo_insert 6 [some (.ref 497), some (.int (nI t)), some (.int (nI r)), some (.int kd), some (.int (nI (40 * t + k))), g] [] h c z Q := by
  have hl := hes.2.1
  intro j
  induction j with
  | zero =>
    intro k hk0 he g
    have hk0 : k = es.length := by omega
    subst hk0
    rw [List.drop_length] at he
    have he : fi es q = es.length := he
    refine e_Mo_insert_6 rfl ?_
    refine e_Mo_insert_8  ?_
    refine e_Mo_insert_10 rfl ?_
    refine e_Mo_insert_11  ?_
    refine e_Mo_insert_12 rfl ?_
    refine e_Mo_insert_13 hm.1 rfl ?_
    refine e_Mo_insert_16 rfl ?_
    refine e_Mo_insert_17 (t) hm.a2 rfl (md (a := 2) (show t < 3 by omega)) mlen ?_
    rw [hes.1]
    refine e_Mo_insert_18  ?_
    rw [ix40]
    refine e_Mo_insert_19 (fun _ => ?_) (fun c1 => absurd (nI_le (Nat.le_refl _) (by omega)) c1)
    rw [← he]
    exact hk g
  | succ j ih =>
    intro k hk0 he g
    have hek : es[k]? = some es[k] := List.getElem?_eq_getElem (by omega)
    have hmk := hes.2.2 k _ hek
    have sk_ := ss _ (List.getElem_mem (show k < es.length by omega))
    rw [drop_g hek, fi] at he
    refine e_Mo_insert_6 rfl ?_
    refine e_Mo_insert_8  ?_
    refine e_Mo_insert_10 rfl ?_
    refine e_Mo_insert_11  ?_
    refine e_Mo_insert_12 rfl ?_
    refine e_Mo_insert_13 hm.1 rfl ?_
    refine e_Mo_insert_16 rfl ?_
    refine e_Mo_insert_17 (t) hm.a2 rfl (md (a := 2) (show t < 3 by omega)) mlen ?_
    rw [hes.1]
    refine e_Mo_insert_18  ?_
    rw [ix40]
    refine e_Mo_insert_19 (fun c1 => absurd c1 (nI_ge (by omega) (by omega))) (fun _ => ?_)
    refine e_Mo_insert_22 rfl ?_
    refine e_Mo_insert_23 rfl ?_
    refine e_Mo_insert_25 rfl ?_
    refine e_Mo_insert_26 hm.1 (by decide) (c_Mo_order hm (by omega) hr hmk.1 hq sk_ sq) (kp ?_) xn
    by_cases w : es[k].1 < q
    · rw [if_pos w] at he
      have hlt := (rov_lt sk_ sq hmk.1.2.1 hq.2.1).mpr w
      refine e_Mo_insert_29 (fun c1 => absurd hlt (Int32.not_lt.mpr c1)) (fun _ => ?_)
      refine e_Mo_insert_32 rfl ?_
      refine e_Mo_insert_35  ?_
      rw [nI_1]
      exact ih (k + 1) (by omega) (by omega) g
    · rw [if_neg w] at he
      have hlt : ¬ rov es[k].1 q < 0 := fun e => w ((rov_lt sk_ sq hmk.1.2.1 hq.2.1).mp e)
      refine e_Mo_insert_29 (fun _ => ?_) (fun c1 => absurd (Int32.not_lt.mp hlt) c1)
      have he : fi es q = k := he
      rw [← he]
      exact hk g
theorem l_Mo_insert2 {kd : Int32} {k : Nat} {Q : tv_R → tv_H → Prop} (ht : t < 3) (hl : es.length < 40) (hk1 : k ≤ es.length) (hk : ∀ hc M', mh hc th us M' → fr mS h hc → km (trs t) no_ M M' → (∀ i f, i < k → es[i]? = some f → me M' (40 * t + i) f) → (∀ i f, k ≤ i → es[i]? = some f → me M' (40 * t + (i + 1)) f) → tv_Ev G mm_Mo_insert 74 [some (.ref 497), some (.int (nI t)), some (.int (nI r)), some (.int kd), some (.int (nI (40 * t + k))), some (.int (nI (40 * t + k)))] [] hc c z Q) : ∀ j m, m = k + j → m ≤ es.length → ∀ hc M', mh hc th us M' → fr mS h hc → km (trs t) no_ M M' → (∀ i f, i < m → es[i]? = some f → me M' (40 * t + i) f) → (∀ i f, m ≤ i → es[i]? = some f → me M' (40 * t + (i + 1)) f) → tv_Ev G mm_Mo_insert 51 [some (.ref 497), some (.int (nI t)), some (.int (nI r)), some (.int kd), some (.int (nI (40 * t + k))), some (.int (nI (40 * t + m)))] [] hc c z Q := by
  intro j
  induction j with
  | zero =>
    intro m hm0 hml hc M' hm hf hkm h1 h2
    have hm0 : m = k := by omega
    subst hm0
    refine e_Mo_insert_51 rfl ?_
    refine e_Mo_insert_53 rfl ?_
    refine e_Mo_insert_55 (fun _ => ?_) (fun c1 => absurd (nI_le (Nat.le_refl _) (by omega)) c1)
    exact hk hc M' hm hf hkm h1 h2
  | succ j ih =>
    intro m hm0 hml hc M' hm hf hkm h1 h2
    obtain ⟨n, rfl⟩ : ∃ n, m = n + 1 := ⟨m - 1, by omega⟩
    have hen : es[n]? = some es[n] := List.getElem?_eq_getElem (by omega)
    refine e_Mo_insert_51 rfl ?_
    refine e_Mo_insert_53 rfl ?_
    refine e_Mo_insert_55 (fun c1 => absurd c1 (nI_ge (by omega) (by omega))) (fun _ => ?_)
    refine e_Mo_insert_58 rfl ?_
    refine e_Mo_insert_59 rfl ?_
    refine e_Mo_insert_61  ?_
    refine e_Mo_insert_62  ?_
    refine e_Mo_insert_63 rfl ?_
    rw [← Nat.add_assoc, nI_pred]
    refine e_Mo_insert_65 hm.1 (by decide) (c_Mo_shift hm (a := 40 * t + n) (b := 40 * t + n + 1) (by omega) (by omega)) (kn ?_) xn
    rintro hd ⟨hmd, fd⟩
    refine e_Mo_insert_68 rfl ?_
    refine e_Mo_insert_71  ?_
    rw [nI_m1 (40 * t + n)]
    have ks : km (fun r => r = 40 * t + n + 1) no_ M' (sfM M' (40 * t + n) (40 * t + n + 1)) := km.sf
    refine ih n (by omega) (by omega) hd _ hmd (hf.tr fd) (hkm.tr (ks.mono (by rintro r rfl; exact ⟨by omega, by omega⟩) (fun _ q => q))) (fun i f hi he => sf_e (h1 i f (by omega) he) (by omega)) (fun i f hi he => ?_)
    by_cases e : i = n
    · subst e
      rw [hen] at he
      rw [← Option.some.inj he]
      exact sf_at (h1 i _ (by omega) hen)
    · exact sf_e (h2 i f (by omega) he) (by omega)
theorem c_Mo_insert {kd : Int32} (hm : mh h th us M) (ht : t < 3) (hr : r < 124) (hr2 : 120 ≤ r) (hes : mt M t es) (hl : es.length < 40) (hq : mp M r q) (ss : sme es) (sq : sm q) : tv_Ct G mm_Mo_insert [.ref 497, .int (nI t), .int (nI r), .int kd] h 0 0 (rv (.int (nI (40 * t + fi es q))) (fun h' => (∃ M', mh h' th us M' ∧ mt M' t (iat es (fi es q) (q, kd, [])) ∧ km (trs t) (fun u => u = t) M M') ∧ fr mS h h')) := by
  have hfl := fi_le es q
  refine tv_ct rfl (by decide +kernel) (by simp [Value.category]) (Nat.le_of_ble_eq_true rfl) ?_
  refine e_Mo_insert_0  ?_
  refine e_Mo_insert_2 rfl ?_
  refine e_Mo_insert_3  ?_
  refine e_Mo_insert_4 (Nat.le_of_ble_eq_true rfl) ?_
  rw [m40]
  refine l_Mo_insert1 hm ht hr hes hq ss sq (fun g => ?_) es.length 0 rfl (by rw [List.drop_zero, Nat.zero_add]) none
  refine e_Mo_insert_38  ?_
  refine e_Mo_insert_40 rfl ?_
  refine e_Mo_insert_41  ?_
  refine e_Mo_insert_42 rfl ?_
  refine e_Mo_insert_43 hm.1 rfl ?_
  refine e_Mo_insert_46 rfl ?_
  refine e_Mo_insert_47 (t) hm.a2 rfl (md (a := 2) (show t < 3 by omega)) mlen ?_
  rw [hes.1]
  refine e_Mo_insert_48  ?_
  refine e_Mo_insert_49 (Nat.le_of_ble_eq_true rfl) ?_
  rw [ix40]
  refine l_Mo_insert2 ht hl hfl (fun h2 M2 hm2 f2 k2 u1 u2 => ?_) (es.length - fi es q) es.length (by omega) (Nat.le_refl _) h M hm fr.rf km.rf (fun i f hi he => hes.2.2 i f he) (fun i f hi he => by have := (List.getElem?_eq_some_iff.mp he).1; omega)
  refine e_Mo_insert_74 rfl ?_
  refine e_Mo_insert_75 hm2.1 rfl ?_
  refine e_Mo_insert_78 rfl ?_
  refine e_Mo_insert_79 rfl rfl ?_
  refine e_Mo_insert_80 (t) hm2.a2 rfl (md (a := 2) (show t < 3 by omega)) mlen ?_
  refine e_Mo_insert_81  ?_
  refine e_Mo_insert_82  ?_
  refine e_Mo_insert_83 (t) hm2.a2 rfl (ml (a := 2) (show t < 3 by omega)) mlen ?_
  rw [(k2.2.1 t (fun q => q)).trans hes.1, nI_1]
  have hm3 := hm2.s2 (i := t) (v := nI (es.length + 1))
  have k3 : km no_ (fun u => u = t) M2 (mu M2 2 t (nI (es.length + 1))) := km.mu2
  refine e_Mo_insert_84 rfl ?_
  refine e_Mo_insert_85 rfl ?_
  refine e_Mo_insert_86 rfl ?_
  refine e_Mo_insert_88 hm3.1 (by decide) (c_Mo_copyPath hm3 (a := r) (b := 40 * t + fi es q) (by omega) (by omega)) (kn ?_) xn
  rintro h4 ⟨hm4, f4⟩
  have k4 : km (fun r => r = 40 * t + fi es q) no_ (mu M2 2 t (nI (es.length + 1))) (cpM (mu M2 2 t (nI (es.length + 1))) r (40 * t + fi es q)) := km.cp
  have p4 := cp_at (t := 40 * t + fi es q) (k3.p (fun q => q) (k2.p (r := r) (fun w => by have := w.2; omega) hq))
  refine e_Mo_insert_91 rfl ?_
  refine e_Mo_insert_92 hm4.1 rfl ?_
  refine e_Mo_insert_95 rfl ?_
  refine e_Mo_insert_97 rfl ?_
  refine e_Mo_insert_98 (40 * t + fi es q) hm4.a3 rfl (ml (a := 3) (show 40 * t + fi es q < 120 by omega)) mlen ?_
  have hm5 := hm4.s3 (i := 40 * t + fi es q) (v := kd)
  refine e_Mo_insert_99 rfl ?_
  refine e_Mo_insert_100 hm5.1 rfl ?_
  refine e_Mo_insert_103 rfl ?_
  refine e_Mo_insert_105  ?_
  refine e_Mo_insert_106 (40 * t + fi es q) hm5.a4 rfl (ml (a := 4) (show 40 * t + fi es q < 120 by omega)) mlen ?_
  have hm6 := hm5.s4 (i := 40 * t + fi es q) (v := 0)
  refine e_Mo_insert_107 rfl ?_
  have kA : km (fun r => r = 40 * t + fi es q) (fun u => u = t) M2 (mu (mu (cpM (mu M2 2 t (nI (es.length + 1))) r (40 * t + fi es q)) 3 (40 * t + fi es q) kd) 4 (40 * t + fi es q) 0) := (((k3.mono (fun _ q => q.elim) (fun _ q => q)).tr (k4.mono (fun _ q => q) (fun _ q => q.elim))).tr km.mu3).tr km.mu4
  refine e_Mo_insert_109 ⟨rfl, ⟨_, hm6, ⟨?_, ?_, fun j f hj => ?_⟩, (k2.mono (fun _ q => q) (fun _ q => q.elim)).tr (kA.mono (by rintro r rfl; exact ⟨by omega, by omega⟩) (fun _ q => q))⟩, (((f2.tr (fr.set ⟨by omega, by omega⟩)).tr f4).tr (fr.set ⟨by omega, by omega⟩)).tr (fr.set ⟨by omega, by omega⟩)⟩
  · rw [mu_ne (by omega), mu_ne (by omega), cp_o (by decide), mu_at, iat_len hfl]
  · rw [iat_len hfl]; omega
  · rw [iat_get hfl] at hj
    by_cases w1 : j < fi es q
    · rw [if_pos w1] at hj
      exact kA.e (by omega) (u1 j f w1 hj)
    · rw [if_neg w1] at hj
      by_cases w2 : j = fi es q
      · rw [if_pos w2] at hj
        subst w2
        rw [← Option.some.inj hj]
        refine ⟨p4.k ?_ (fun k hk => ?_), ?_, ?_, Nat.zero_le _, fun k c hk => by cases hk⟩
        · rw [mu_ne (by omega), mu_ne (by omega)]
        · rw [mu_ne (by omega), mu_ne (by omega)]
        · rw [mu_ne (by omega), mu_at]
        · rw [mu_at]; rfl
      · rw [if_neg w2] at hj
        have := u2 (j - 1) f (by omega) hj
        rw [show j - 1 + 1 = j by omega] at this
        exact kA.e (by omega) this
theorem l_Mo_clear (al : Bool) (ht : t < 3) (ss : sme es) (sq : sm q) : ∀ j k, j + k = es.length → ∀ hc M' g, mh hc th us M' → fr mS h hc → km (fun r => trs t r ∨ r = 122) no_ M M' → mp M' 122 q → M' 2 t = nI es.length → es.length ≤ 40 → (∀ i f, (dr q al (es.take k))[i]? = some f → me M' (40 * t + i) f) → (∀ i f, k ≤ i → es[i]? = some f → me M' (40 * t + i) f) → tv_Ev G mm_Mo_clear 19 [some (.ref 497), some (.int (nI t)), some (.int (nI r)), some (.int (if al = true then 1 else 0)), some (.int (nI (40 * t + (dr q al (es.take k)).length))), some (.int (nI (40 * t + k))), g] [] hc c z (rn (fun h' => (∃ M', mh h' th us M' ∧ mt M' t (dr q al es) ∧ km (fun r => trs t r ∨ r = 122) (fun u => u = t) M M') ∧ fr mS h h')) := by
  intro j
  have hdl : ∀ k, (dr q al (es.take k)).length ≤ k := fun k => by
    have h1 := List.length_filter_le (fun f => decide (¬ gn q al f)) (es.take k)
    unfold dr
    rw [List.length_take] at h1
    omega
  induction j with
  | zero =>
    intro k hk hc M' g hm hf hkm hq h2 hl u1 u2
    have hk : k = es.length := by omega
    subst hk
    have hd := hdl es.length
    rw [List.take_length] at u1 hd ⊢
    refine e_Mo_clear_19 rfl ?_
    refine e_Mo_clear_21  ?_
    refine e_Mo_clear_23 rfl ?_
    refine e_Mo_clear_24  ?_
    refine e_Mo_clear_25 rfl ?_
    refine e_Mo_clear_26 hm.1 rfl ?_
    refine e_Mo_clear_29 rfl ?_
    refine e_Mo_clear_30 (t) hm.a2 rfl (md (a := 2) (show t < 3 by omega)) mlen ?_
    rw [h2]
    refine e_Mo_clear_31  ?_
    rw [ix40]
    refine e_Mo_clear_32 (fun _ => ?_) (fun c1 => absurd (nI_le (Nat.le_refl _) (by omega)) c1)
    refine e_Mo_clear_97 rfl ?_
    refine e_Mo_clear_98 hm.1 rfl ?_
    refine e_Mo_clear_101 rfl ?_
    refine e_Mo_clear_102 rfl ?_
    refine e_Mo_clear_104  ?_
    refine e_Mo_clear_106 rfl ?_
    refine e_Mo_clear_107  ?_
    refine e_Mo_clear_108  ?_
    rw [m40, pk_sub (by omega), Nat.add_sub_cancel_left]
    refine e_Mo_clear_109 (t) hm.a2 rfl (ml (a := 2) (show t < 3 by omega)) mlen ?_
    refine e_Mo_clear_110 ⟨rfl, ⟨_, hm.s2, ⟨mu_at, by omega, fun i f hi => ?_⟩, (hkm.mono (fun _ q => q) (fun _ q => q.elim)).tr km.mu2⟩, hf.tr (fr.set ⟨by omega, by omega⟩)⟩
    exact km.e (R := no_) (C := fun u => u = t) km.mu2 (fun q => q) (u1 i f hi)
  | succ j ih =>
    intro k hk hc M' g hm hf hkm hq h2 hl u1 u2
    have hek : es[k]? = some es[k] := List.getElem?_eq_getElem (by omega)
    have hmk := u2 k _ (Nat.le_refl _) hek
    have sk_ := ss _ (List.getElem_mem (show k < es.length by omega))
    have hd := hdl k
    have hst : dr q al (es.take (k + 1)) = dr q al (es.take k) ++ (if gn q al es[k] then [] else [es[k]]) := by rw [take_g hek, dr_s]
    have hi := ih (k + 1) (by omega)
    rw [hst, ← Nat.add_assoc, nI_succ (40 * t + k)] at hi
    have gone : gn q al es[k] → tv_Ev G mm_Mo_clear 61 [some (.ref 497), some (.int (nI t)), some (.int (nI r)), some (.int (if al = true then 1 else 0)), some (.int (nI (40 * t + (dr q al (es.take k)).length))), some (.int (nI (40 * t + k))), g] [] hc c z (rn (fun h' => (∃ M', mh h' th us M' ∧ mt M' t (dr q al es) ∧ km (fun r => trs t r ∨ r = 122) (fun u => u = t) M M') ∧ fr mS h h')) := by
      intro w
      rw [if_pos w, List.append_nil] at hi
      refine e_Mo_clear_61  ?_
      refine e_Mo_clear_62  ?_
      refine e_Mo_clear_66 (Nat.le_of_ble_eq_true rfl) ?_
      refine e_Mo_clear_68 rfl ?_
      refine e_Mo_clear_70 (fun _ => ?_) (fun c1 => absurd c1 (by decide))
      refine e_Mo_clear_91 rfl ?_
      refine e_Mo_clear_94  ?_
      exact hi hc M' _ hm hf hkm hq h2 hl u1 (fun i f hi => u2 i f (by omega))
    have stay : ¬ gn q al es[k] → tv_Ev G mm_Mo_clear 65 [some (.ref 497), some (.int (nI t)), some (.int (nI r)), some (.int (if al = true then 1 else 0)), some (.int (nI (40 * t + (dr q al (es.take k)).length))), some (.int (nI (40 * t + k))), g] [] hc c z (rn (fun h' => (∃ M', mh h' th us M' ∧ mt M' t (dr q al es) ∧ km (fun r => trs t r ∨ r = 122) (fun u => u = t) M M') ∧ fr mS h h')) := by
      intro w
      rw [if_neg w, List.length_append, List.length_singleton, ← Nat.add_assoc, nI_succ (40 * t + (dr q al (es.take k)).length)] at hi
      refine e_Mo_clear_65  ?_
      refine e_Mo_clear_66 (Nat.le_of_ble_eq_true rfl) ?_
      refine e_Mo_clear_68 rfl ?_
      refine e_Mo_clear_70 (fun c1 => absurd rfl c1) (fun _ => ?_)
      refine e_Mo_clear_73 rfl ?_
      refine e_Mo_clear_75 rfl ?_
      refine e_Mo_clear_77 (fun c1 => ?_) (fun c1 => ?_)
      · have c1 := (nI_leI (by omega) (by omega)).mp c1
        refine e_Mo_clear_88 rfl ?_
        refine e_Mo_clear_91 rfl ?_
        refine e_Mo_clear_94  ?_
        refine hi hc M' _ hm hf hkm hq h2 hl (fun i f hi => ?_) (fun i f hi => u2 i f (by omega))
        rcases Nat.lt_or_ge i (dr q al (es.take k)).length with g1 | g1
        · rw [List.getElem?_append_left g1] at hi
          exact u1 i f hi
        · rw [List.getElem?_append_right g1] at hi
          have hi0 : i = (dr q al (es.take k)).length := by
            have := (List.getElem?_eq_some_iff.mp hi).1
            simp at this
            omega
          subst hi0
          rw [Nat.sub_self] at hi
          rw [← Option.some.inj hi, show 40 * t + (dr q al (es.take k)).length = 40 * t + k by omega]
          exact hmk
      · have c1 : (dr q al (es.take k)).length < k := by
          rcases Nat.lt_or_ge (dr q al (es.take k)).length k with g1 | g1
          · exact g1
          · exact absurd (nI_le (show 40 * t + k ≤ 40 * t + (dr q al (es.take k)).length by omega) (by omega)) c1
        refine e_Mo_clear_80 rfl ?_
        refine e_Mo_clear_81 rfl ?_
        refine e_Mo_clear_83 rfl ?_
        refine e_Mo_clear_85 hm.1 (by decide) (c_Mo_shift hm (a := 40 * t + k) (b := 40 * t + (dr q al (es.take k)).length) (by omega) (by omega)) (kn ?_) xn
        rintro hd ⟨hmd, fd⟩
        have ks : km (fun r => r = 40 * t + (dr q al (es.take k)).length) no_ M' (sfM M' (40 * t + k) (40 * t + (dr q al (es.take k)).length)) := km.sf
        refine e_Mo_clear_88 rfl ?_
        refine e_Mo_clear_91 rfl ?_
        refine e_Mo_clear_94  ?_
        refine hi hd _ _ hmd (hf.tr fd) (hkm.tr (ks.mono (by rintro r rfl; exact Or.inl ⟨by omega, by omega⟩) (fun _ q => q))) (ks.p (by omega) hq) ((ks.2.1 t (fun q => q)).trans h2) hl (fun i f hi => ?_) (fun i f hi he => sf_e (u2 i f (by omega) he) (by omega))
        rcases Nat.lt_or_ge i (dr q al (es.take k)).length with g1 | g1
        · rw [List.getElem?_append_left g1] at hi
          exact sf_e (u1 i f hi) (by omega)
        · rw [List.getElem?_append_right g1] at hi
          have hi0 : i = (dr q al (es.take k)).length := by
            have := (List.getElem?_eq_some_iff.mp hi).1
            simp at this
            omega
          subst hi0
          rw [Nat.sub_self] at hi
          rw [← Option.some.inj hi]
          exact sf_at hmk
    refine e_Mo_clear_19 rfl ?_
    refine e_Mo_clear_21  ?_
    refine e_Mo_clear_23 rfl ?_
    refine e_Mo_clear_24  ?_
    refine e_Mo_clear_25 rfl ?_
    refine e_Mo_clear_26 hm.1 rfl ?_
    refine e_Mo_clear_29 rfl ?_
    refine e_Mo_clear_30 (t) hm.a2 rfl (md (a := 2) (show t < 3 by omega)) mlen ?_
    rw [h2]
    refine e_Mo_clear_31  ?_
    rw [ix40]
    refine e_Mo_clear_32 (fun c1 => absurd c1 (nI_ge (by omega) (by omega))) (fun _ => ?_)
    refine e_Mo_clear_35 rfl ?_
    refine e_Mo_clear_36 rfl ?_
    refine e_Mo_clear_38  ?_
    refine e_Mo_clear_40 hm.1 (by decide) (c_Mo_isBelow hm (a := 40 * t + k) (b := 122) (by omega) (by omega) hmk.1 hq sk_ sq) (kp ?_) xn
    by_cases w1 : bw es[k].1 q
    · rw [if_pos w1]
      refine e_Mo_clear_43 (fun _ => ?_) (fun c1 => absurd c1 (by decide))
      exact gone (Or.inl w1)
    · rw [if_neg w1]
      refine e_Mo_clear_43 (fun c1 => absurd rfl c1) (fun _ => ?_)
      refine e_Mo_clear_46 rfl ?_
      cases al with
      | false =>
        refine e_Mo_clear_47 (fun _ => ?_) (fun c1 => absurd rfl c1)
        exact stay (by rintro (w | w); exact w1 w; exact absurd w.1 (by decide))
      | true =>
        refine e_Mo_clear_47 (fun c1 => absurd c1 (by decide)) (fun _ => ?_)
        refine e_Mo_clear_50 rfl ?_
        refine e_Mo_clear_51 rfl ?_
        refine e_Mo_clear_53  ?_
        refine e_Mo_clear_55 hm.1 (by decide) (c_Mo_order hm (a := 40 * t + k) (b := 122) (by omega) (by omega) hmk.1 hq sk_ sq) (kp ?_) xn
        by_cases w2 : es[k].1 = q
        · rw [(rov_eq sk_ sq hmk.1.2.1 hq.2.1).mpr w2]
          refine e_Mo_clear_58 (fun c1 => absurd rfl c1) (fun _ => ?_)
          exact gone (Or.inr ⟨rfl, w2⟩)
        · refine e_Mo_clear_58 (fun _ => ?_) (fun c1 => absurd ((rov_eq sk_ sq hmk.1.2.1 hq.2.1).mp c1) w2)
          exact stay (by rintro (w | w); exact w1 w; exact w2 w.2)
theorem c_Mo_clear (al : Bool) (hm : mh h th us M) (ht : t < 3) (hr : r < 124) (hes : mt M t es) (hq : mp M r q) (ss : sme es) (sq : sm q) : tv_Ct G mm_Mo_clear [.ref 497, .int (nI t), .int (nI r), .int (if al = true then 1 else 0)] h 0 0 (rn (fun h' => (∃ M', mh h' th us M' ∧ mt M' t (dr q al es) ∧ km (fun r => trs t r ∨ r = 122) (fun u => u = t) M M') ∧ fr mS h h')) := by
  refine tv_ct rfl (by decide +kernel) (by simp [Value.category]) (Nat.le_of_ble_eq_true rfl) ?_
  refine e_Mo_clear_0 rfl ?_
  refine e_Mo_clear_1 rfl ?_
  refine e_Mo_clear_2  ?_
  refine e_Mo_clear_4 hm.1 (by decide) (c_Mo_copyPath hm (a := r) (b := 122) (by omega) (by omega)) (kn ?_) xn
  rintro h2 ⟨hm2, f2⟩
  have k2 : km (fun r => r = 122) no_ M (cpM M r 122) := km.cp
  have t2 := k2.t (fun q => q) (fun i hi => by omega) hes
  refine e_Mo_clear_7  ?_
  refine e_Mo_clear_9 rfl ?_
  refine e_Mo_clear_10  ?_
  refine e_Mo_clear_11 (Nat.le_of_ble_eq_true rfl) ?_
  refine e_Mo_clear_13  ?_
  refine e_Mo_clear_15 rfl ?_
  refine e_Mo_clear_16  ?_
  refine e_Mo_clear_17 (Nat.le_of_ble_eq_true rfl) ?_
  rw [m40]
  exact l_Mo_clear al ht ss sq es.length 0 rfl h2 _ none hm2 f2 (k2.mono (fun _ q => Or.inr q) (fun _ q => q)) (cp_at hq) t2.1 hes.2.1 (fun i f hi => by rw [List.take_zero] at hi; cases hi) (fun i f _ hi => t2.2.2 i f hi)
end
