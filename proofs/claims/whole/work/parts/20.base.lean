/-! PURE GROUND: answers, frames, numbers -/
/-- what a call ends with -/
def rr (r0 : tv_R) (P : tv_H → Prop) : tv_R → tv_H → Prop := fun r h' => r = r0 ∧ P h'
abbrev rv (v : Value) (P : tv_H → Prop) : tv_R → tv_H → Prop := rr (.inl (some v)) P
abbrev rn (P : tv_H → Prop) : tv_R → tv_H → Prop := rr (.inl none) P
section
variable {G : tv_G} {k : tv_M} {pc : Nat} {ls : List (Option Value)} {st : List Value} {h : tv_H} {c z : Nat} {Q : tv_R → tv_H → Prop} {P : tv_H → Prop} {v : Value}
theorem kv (kk : ∀ h', P h' → tv_Ev G k pc ls (v :: st) h' c z Q) : ∀ v' h', rv v P (.inl v') h' → tv_Ev G k pc ls (v'.toList ++ st) h' c z Q := by
  rintro v' h' ⟨e, hp⟩
  cases e
  exact kk h' hp
theorem kn (kk : ∀ h', P h' → tv_Ev G k pc ls st h' c z Q) : ∀ v' h', rn P (.inl v') h' → tv_Ev G k pc ls (v'.toList ++ st) h' c z Q := by
  rintro v' h' ⟨e, hp⟩
  cases e
  exact kk h' hp
theorem kp (kk : tv_Ev G k pc ls (v :: st) h c z Q) : ∀ v' h', rv v (fun h' => h' = h) (.inl v') h' → tv_Ev G k pc ls (v'.toList ++ st) h' c z Q := by
  rintro v' h' ⟨e, hp⟩
  cases e
  cases hp
  exact kk
theorem xn {X : String → tv_H → Prop} {v : Option Value} : ∀ E h', rr (.inl v) P (.inr E) h' → X E h' := fun _ _ hq => nomatch hq.1
theorem nx {v : Option Value} : ∀ E h', ¬ rr (.inl v) P (.inr E) h' := fun _ _ hq => nomatch hq.1
end
/-- nothing but S has changed -/
def fr (S : Nat → Prop) (h h' : tv_H) : Prop := h'.length = h.length ∧ ∀ b, ¬ S b → h'[b]? = h[b]?
theorem fr.rf {S : Nat → Prop} {h : tv_H} : fr S h h := ⟨rfl, fun _ _ => rfl⟩
theorem fr.tr {S : Nat → Prop} {h1 h2 h3 : tv_H} (a : fr S h1 h2) (b : fr S h2 h3) : fr S h1 h3 := ⟨b.1.trans a.1, fun x hx => (b.2 x hx).trans (a.2 x hx)⟩
theorem fr.mono {S S' : Nat → Prop} {h1 h2 : tv_H} (a : fr S h1 h2) (hs : ∀ b, S b → S' b) : fr S' h1 h2 := ⟨a.1, fun x hx => a.2 x (fun q => hx (hs x q))⟩
theorem fr.set {S : Nat → Prop} {h : tv_H} {a : Nat} {e : tv_E} (ha : S a) : fr S h (h.set a e) := ⟨List.length_set, fun b hb => by rw [List.getElem?_set_ne]; rintro rfl; exact hb ha⟩
theorem gs_eq {h : tv_H} {a : Nat} {e e0 : tv_E} (h0 : h[a]? = some e0) : (h.set a e)[a]? = some e := by
  rw [List.getElem?_set_self (List.getElem?_eq_some_iff.mp h0).1]
theorem gs_ne {h : tv_H} {a b : Nat} {e : tv_E} {r : Option tv_E} (h0 : h[b]? = r) (hab : a ≠ b) : (h.set a e)[b]? = r := by
  rw [List.getElem?_set_ne hab]; exact h0
/-- bytes: a number below 256 as a Java byte -/
theorem s8_lo {c : Nat} (h : c < 128) : sb_b c = nI c := by
  have H : ∀ c, c < 128 → sb_b c = nI c := by decide +kernel
  exact H c h
theorem s8_hi {c : Nat} (h : c < 256) (h2 : 128 ≤ c) : sb_b c < 0 := by
  have H : ∀ c, c < 256 → 128 ≤ c → sb_b c < 0 := by decide +kernel
  exact H c h h2
theorem s8_and {c : Nat} (h : c < 256) : sb_b c &&& 255 = nI c := (sb_byte c h).1
theorem nI_m1 (k : Nat) : nI (k + 1) + (-1) = nI k := pk_m1 k
theorem i8i8 (z : Int32) : z.toInt8.toInt32.toInt8.toInt32 = z.toInt8.toInt32 := by rw [← vp_nar_byte z.toInt8.toInt32, pk_vb]
