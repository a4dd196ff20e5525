/-! Path: reading signs -/
/-- byte k of a word -/
def wb (w : Int32) (k : Nat) : Nat := w.toBitVec.toNat / 2 ^ (8 * k) % 256
theorem wb_lt (w : Int32) (k : Nat) : wb w k < 256 := Nat.mod_lt _ (by decide)
theorem wb_java (w : Int32) {k : Nat} (hk : k < 4) : ((w.toUInt32 >>> ((8 * nI k).toUInt32 &&& Int32.toUInt32 31)).toInt32 &&& 255) = nI (wb w k) := by
  have H : ∀ k, k < 4 → (((8 * nI k).toUInt32 &&& Int32.toUInt32 31).toBitVec % 32).toNat = 8 * k := by decide +kernel
  rw [pk_and _ (m := 255) 8 (by decide), pk_ushr w (8 * nI k) (8 * k) (H k hk)]
  rfl
/-- the signs of a word: its bytes but 0, the lowest first -/
def wbk (w : Int32) (k : Nat) : List Nat := ((List.range k).map (wb w)).filter (fun c => c ≠ 0)
theorem wbk_s (w : Int32) (k : Nat) : wbk w (k + 1) = wbk w k ++ (if wb w k = 0 then [] else [wb w k]) := by
  unfold wbk
  rw [List.range_succ, List.map_append, List.filter_append]
  by_cases h : wb w k = 0
  · simp [h]
  · simp [h]
theorem wbk_len (w : Int32) : ∀ k, (wbk w k).length ≤ k
  | 0 => Nat.le_refl 0
  | k + 1 => by
    rw [wbk_s, List.length_append]
    have := wbk_len w k
    split <;> simp <;> omega
abbrev pS (a : Nat) : Nat → Prop := fun b => b = a ∨ b = a + 1
abbrev isN (c : Nat) : Prop := (97 ≤ c ∧ c ≤ 122) ∨ (48 ≤ c ∧ c ≤ 57)
def wa : Nat → List Nat → Option Nat
  | n, [] => some n
  | n, c :: p => if c = 47 ∧ 0 < n then wa 0 p else if isN c ∧ n < 4 then wa (n + 1) p else none
/-- p is a path -/
def wf (p : List Nat) : Bool := match wa 0 p with
  | some n => decide (0 < n) && decide (nms p ≤ 4)
  | none => false
theorem wf_ne {p : List Nat} (h : wf p = true) : p ≠ [] := by
  rintro rfl
  exact absurd h (by decide)
theorem s8_le {c d : Nat} (hc : c < 256) (hd : d < 128) (h0 : 0 < d) : nI d ≤ sb_b c ↔ d ≤ c ∧ c < 128 := by
  rcases Nat.lt_or_ge c 128 with h | h
  · rw [s8_lo h, nI_leI (by omega) (by omega)]; exact ⟨fun q => ⟨q, h⟩, fun q => q.1⟩
  · have h1 := s8_hi hc h
    rw [Int32.lt_iff_toInt_lt, Int32.toInt_zero] at h1
    rw [Int32.le_iff_toInt_le, nI_toInt (by omega)]
    constructor
    · intro q; omega
    · intro q; omega
theorem s8_ge {c d : Nat} (hc : c < 256) (hd : d < 128) : sb_b c ≤ nI d ↔ c ≤ d ∨ 128 ≤ c := by
  rcases Nat.lt_or_ge c 128 with h | h
  · rw [s8_lo h, nI_leI (by omega) (by omega)]; exact ⟨fun q => Or.inl q, fun q => by omega⟩
  · have h1 := s8_hi hc h
    rw [Int32.lt_iff_toInt_lt, Int32.toInt_zero] at h1
    rw [Int32.le_iff_toInt_le, nI_toInt (by omega)]
    exact ⟨fun _ => Or.inr h, fun _ => by omega⟩
section
variable {G : tv_G} {h : tv_H} {a b : Nat} {p q : List Nat} {c z : Nat} {Q : tv_R → tv_H → Prop}
theorem c_Tc_byteOf (w : Int32) {k : Nat} (hk : k < 4) : tv_Ct G mm_Tc_byteOf [.int w, .int (nI k)] h 0 0 (rv (.int (nI (wb w k))) (fun h' => h' = h)) := by
  refine tv_ct rfl (by decide +kernel) (by simp [Value.category]) (Nat.le_of_ble_eq_true rfl) ?_
  refine e_Tc_byteOf_0 rfl ?_
  refine e_Tc_byteOf_1  ?_
  refine e_Tc_byteOf_3 rfl ?_
  refine e_Tc_byteOf_4  ?_
  refine e_Tc_byteOf_5  ?_
  refine e_Tc_byteOf_6  ?_
  refine e_Tc_byteOf_9  ?_
  exact e_Tc_byteOf_10 ⟨by rw [wb_java w hk], rfl⟩
theorem l_Pa_appendWord (w : Int32) (hl : p.length + 4 ≤ 19) : ∀ j k, j + k = 4 → ∀ h' u, pa h' a (p ++ wbk w k) → fr (pS a) h h' → tv_Ev G mm_Pa_appendWord 2 [some (.ref a), some (.int w), some (.int (nI k)), u] [] h' c z (rn (fun h'' => pa h'' a (p ++ wbk w 4) ∧ fr (pS a) h h'')) := by
  intro j
  induction j with
  | zero =>
    intro k hk h' u hp hf
    have hk : k = 4 := by omega
    subst hk
    refine e_Pa_appendWord_2 rfl ?_
    refine e_Pa_appendWord_3  ?_
    refine e_Pa_appendWord_4 (fun _ => ?_) (fun c1 => absurd (by decide) c1)
    exact e_Pa_appendWord_28 ⟨rfl, hp, hf⟩
  | succ j ih =>
    intro k hk h' u hp hf
    obtain ⟨bs, h1, -⟩ := id hp
    have hi := ih (k + 1) (by omega)
    rw [nI_succ, wbk_s] at hi
    refine e_Pa_appendWord_2 rfl ?_
    refine e_Pa_appendWord_3  ?_
    refine e_Pa_appendWord_4 (fun c1 => absurd c1 (nI_ge (b := 4) (by omega) (by decide))) (fun _ => ?_)
    refine e_Pa_appendWord_7 rfl ?_
    refine e_Pa_appendWord_8 rfl ?_
    refine e_Pa_appendWord_9 (by decide) (c_Tc_byteOf w (by omega)) nx (kp ?_)
    refine e_Pa_appendWord_12 (Nat.le_of_ble_eq_true rfl) ?_
    refine e_Pa_appendWord_13 rfl ?_
    refine e_Pa_appendWord_14 (fun c1 => ?_) (fun c1 => ?_)
    · refine e_Pa_appendWord_22 rfl ?_
      refine e_Pa_appendWord_25  ?_
      have h0 : wb w k = 0 := (nI_eq (by have := wb_lt w k; omega) (by omega)).mp (c1.trans nI_0.symm)
      rw [if_pos h0, List.append_nil] at hi
      exact hi h' _ hp hf
    · have h0 : wb w k ≠ 0 := fun e => c1 (by rw [e]; rfl)
      rw [if_neg h0, ← List.append_assoc] at hi
      refine e_Pa_appendWord_17 rfl ?_
      refine e_Pa_appendWord_18 rfl ?_
      refine e_Pa_appendWord_19 h1 (by decide) (c_Pa_append hp (wb_lt w k) (by rw [List.length_append]; have := wbk_len w k; omega)) (kn ?_) xn
      rintro h'' ⟨hp', hf'⟩
      refine e_Pa_appendWord_22 rfl ?_
      refine e_Pa_appendWord_25  ?_
      exact hi h'' _ hp' (hf.tr hf')
theorem c_Pa_appendWord (hp : pa h a p) (w : Int32) (hl : p.length + 4 ≤ 19) : tv_Ct G mm_Pa_appendWord [.ref a, .int w] h 0 0 (rn (fun h' => pa h' a (p ++ wbk w 4) ∧ fr (pS a) h h')) := by
  refine tv_ct rfl (by decide +kernel) (by simp [Value.category]) (Nat.le_of_ble_eq_true rfl) ?_
  refine e_Pa_appendWord_0  ?_
  refine e_Pa_appendWord_1 (Nat.le_of_ble_eq_true rfl) ?_
  exact l_Pa_appendWord w hl 4 0 rfl h none (by rw [show wbk w 0 = [] from rfl, List.append_nil]; exact hp) fr.rf
theorem c_Pa_isNameSign {d : Nat} (hd : d < 256) : tv_Ct G mm_Pa_isNameSign [.int (sb_b d)] h 0 0 (rv (.int (if isN d then 1 else 0)) (fun h' => h' = h)) := by
  have a1 := s8_le hd (d := 97) (by decide) (by decide)
  have a2 := s8_ge hd (d := 122) (by decide)
  have a3 := s8_le hd (d := 48) (by decide) (by decide)
  have a4 := s8_ge hd (d := 57) (by decide)
  have lo : tv_Ev G mm_Pa_isNameSign 12 [some (.int (sb_b d))] [] h 0 0 (rv (.int (if 48 ≤ d ∧ d ≤ 57 then 1 else 0)) (fun h' => h' = h)) := by
    refine e_Pa_isNameSign_12 rfl ?_
    refine e_Pa_isNameSign_13  ?_
    refine e_Pa_isNameSign_15 (fun c1 => ?_) (fun c1 => ?_)
    · refine e_Pa_isNameSign_28  ?_
      have : ¬ (48 ≤ d ∧ d ≤ 57) := fun q => (Int32.not_le.mpr c1) (a3.mpr (by omega))
      exact e_Pa_isNameSign_29 (Or.inl rfl) ⟨by rw [if_neg this], rfl⟩
    · have b3 := a3.mp (Int32.not_lt.mp c1)
      refine e_Pa_isNameSign_18 rfl ?_
      refine e_Pa_isNameSign_19  ?_
      refine e_Pa_isNameSign_21 (fun c2 => ?_) (fun c2 => ?_)
      · refine e_Pa_isNameSign_28  ?_
        have : ¬ (48 ≤ d ∧ d ≤ 57) := fun q => (Int32.not_le.mpr c2) (a4.mpr (by omega))
        exact e_Pa_isNameSign_29 (Or.inl rfl) ⟨by rw [if_neg this], rfl⟩
      · have b4 := a4.mp (Int32.not_lt.mp c2)
        refine e_Pa_isNameSign_24  ?_
        refine e_Pa_isNameSign_25  ?_
        exact e_Pa_isNameSign_29 (Or.inr rfl) ⟨by rw [if_pos (by omega)], rfl⟩
  refine tv_ct rfl (by decide +kernel) (by simp [Value.category]) (Nat.le_of_ble_eq_true rfl) ?_
  refine e_Pa_isNameSign_0 rfl ?_
  refine e_Pa_isNameSign_1  ?_
  refine e_Pa_isNameSign_3 (fun c1 => ?_) (fun c1 => ?_)
  · have b1 : ¬ (97 ≤ d ∧ d < 128) := fun q => (Int32.not_le.mpr c1) (a1.mpr q)
    have : (if isN d then (1 : Int32) else 0) = if 48 ≤ d ∧ d ≤ 57 then 1 else 0 := by
      by_cases h9 : 48 ≤ d ∧ d ≤ 57
      · rw [if_pos h9, if_pos (Or.inr h9)]
      · rw [if_neg h9, if_neg (by rintro (q | q) <;> omega)]
    rw [this]
    exact lo
  · have b1 := a1.mp (Int32.not_lt.mp c1)
    refine e_Pa_isNameSign_6 rfl ?_
    refine e_Pa_isNameSign_7  ?_
    refine e_Pa_isNameSign_9 (fun c2 => ?_) (fun c2 => ?_)
    · have b2 := a2.mp c2
      refine e_Pa_isNameSign_24  ?_
      refine e_Pa_isNameSign_25  ?_
      exact e_Pa_isNameSign_29 (Or.inr rfl) ⟨by rw [if_pos (Or.inl (by omega))], rfl⟩
    · have b2 : ¬ (d ≤ 122 ∨ 128 ≤ d) := fun q => c2 (a2.mpr q)
      have : (if isN d then (1 : Int32) else 0) = if 48 ≤ d ∧ d ≤ 57 then 1 else 0 := by
        by_cases h9 : 48 ≤ d ∧ d ≤ 57
        · omega
        · rw [if_neg h9, if_neg (by rintro (q | q) <;> omega)]
      rw [this]
      exact lo
end
