/-! the reference: bytes of words; append, many, fails, isTree, isLetter, byteOf, lay -/
theorem wb_sar (w : Int32) {k : Nat} (hk : k < 4) : (w >>> ((8 * nI k) &&& 31)) &&& 255 = nI (wb w k) := by
  have H : ∀ k, k < 4 → (((8 * nI k) &&& 31 : Int32).toBitVec.smod 32).toNat = 8 * k := by decide +kernel
  have h1 := pk_shr w ((8 * nI k) &&& 31) (8 * k) (H k hk)
  rw [pk_and _ (m := 255) 8 (by decide)]
  congr 1
  unfold wb
  have a1 : (w >>> ((8 * nI k) &&& 31)).toInt = (w >>> ((8 * nI k) &&& 31)).toBitVec.toInt := rfl
  have a2 : w.toInt = w.toBitVec.toInt := rfl
  rw [a1, a2, BitVec.toInt_eq_toNat_cond, BitVec.toInt_eq_toNat_cond, Int.shiftRight_eq_div_pow] at h1
  have b1 := (w >>> ((8 * nI k) &&& 31)).toBitVec.isLt
  have b2 := w.toBitVec.isLt
  generalize (w >>> ((8 * nI k) &&& 31)).toBitVec.toNat = X at *
  generalize w.toBitVec.toNat = Y at *
  rcases k with _ | _ | _ | _ | k
  · simp only [Nat.mul_zero, Nat.pow_zero] at h1 ⊢
    split at h1 <;> split at h1 <;> simp at h1 ⊢ <;> omega
  · simp only [Nat.zero_add, Nat.mul_one, show (2 : Nat) ^ 8 = 256 from rfl] at h1 ⊢
    split at h1 <;> split at h1 <;> simp at h1 ⊢ <;> omega
  · simp only [show (2 : Nat) ^ (8 * (0 + 1 + 1)) = 65536 from rfl] at h1 ⊢
    split at h1 <;> split at h1 <;> simp at h1 ⊢ <;> omega
  · simp only [show (2 : Nat) ^ (8 * (0 + 1 + 1 + 1)) = 16777216 from rfl] at h1 ⊢
    split at h1 <;> split at h1 <;> simp at h1 ⊢ <;> omega
  · omega
theorem and3 : ∀ k, k < 12 → nI k &&& 3 = nI (k % 4) := by decide +kernel
def tn (x : Int32) : Nat := if x = 0 then 0 else 1
theorem tn_x {x : Int32} (hx : it x) : x = nI (tn x) := by
  rcases hx with rfl | rfl <;> rfl
theorem tn_lt (x : Int32) : tn x < 2 := by
  unfold tn
  split <;> omega
/-- what fails leaves in thrown -/
def fk (a b d : Int32) : Nat := if a = 0 then (if b = 0 then (if d = 0 then 0 else 3) else 2) else 1
theorem wa_app : ∀ {p q : List Nat} {n : Nat}, wa n (p ++ q) = (wa n p).bind (fun m => wa m q) := by
  intro p
  induction p with
  | nil => intro q n; rfl
  | cons d p ih =>
    intro q n
    rw [List.cons_append, wa, wa]
    split
    · exact ih
    · split
      · exact ih
      · rfl
/-- the byte k of three words -/
def yk (a b d : Int32) (k : Nat) : Nat := wb (if k < 4 then a else if k < 8 then b else d) (k % 4)
def pk_ (a b d : Int32) (k : Nat) : List Nat := ((List.range k).map (yk a b d)).filter (fun c => c ≠ 0)
theorem pk_s (a b d : Int32) (k : Nat) : pk_ a b d (k + 1) = pk_ a b d k ++ (if yk a b d k = 0 then [] else [yk a b d k]) := by
  unfold pk_
  rw [List.range_succ, List.map_append, List.filter_append]
  by_cases h : yk a b d k = 0
  · simp [h]
  · simp [h]
theorem pk_len (a b d : Int32) : ∀ k, (pk_ a b d k).length ≤ k
  | 0 => Nat.le_refl 0
  | k + 1 => by
    rw [pk_s, List.length_append]
    have := pk_len a b d k
    split <;> simp <;> omega
theorem pk_12 (a b d : Int32) : pk_ a b d 12 = w3 a b d := by
  show List.filter (fun c => decide (c ≠ 0)) ([wb a 0, wb a 1, wb a 2, wb a 3] ++ [wb b 0, wb b 1, wb b 2, wb b 3] ++ [wb d 0, wb d 1, wb d 2, wb d 3]) = _
  rw [List.filter_append, List.filter_append]
  rfl
theorem yk_lt (a b d : Int32) (k : Nat) : yk a b d k < 256 := wb_lt _ _
section
variable {G : tv_G} {h h' : tv_H} {th us x w : Int32} {M : mM} {c z r t : Nat} {p q : List Nat} {es : List tE}
theorem c_Mo_thrown (hm : mh h th us M) : tv_Ct G mm_Mo_thrown [.ref 497] h 0 0 (rv (.int th) (fun h' => h' = h)) := by
  refine tv_ct rfl (by decide +kernel) (by simp [Value.category]) (Nat.le_of_ble_eq_true rfl) ?_
  refine e_Mo_thrown_0 rfl ?_
  refine e_Mo_thrown_1 hm.1 rfl ?_
  exact e_Mo_thrown_4 ⟨rfl, rfl⟩
theorem c_Mo_fails {a b d : Int32} (hm : mh h th us M) : tv_Ct G mm_Mo_fails [.ref 497, .int a, .int b, .int d] h 0 0 (rv (.int (if fk a b d = 0 then 0 else 1)) (fun h' => mh h' (nI (fk a b d)) us M ∧ fr mS h h')) := by
  have tail : ∀ k : Nat, k < 4 → ∀ ls, ls[0]? = some (some (.ref 497)) → tv_Ev G mm_Mo_fails 26 ls [.int (nI k), .ref 497] h 0 0 (rv (.int (if k = 0 then 0 else 1)) (fun h' => mh h' (nI k) us M ∧ fr mS h h')) := by
    intro k hk ls hls
    refine e_Mo_fails_26 hm.1 (Nat.le_of_ble_eq_true rfl) ?_
    have hm2 := hm.obj (nI k) us
    refine e_Mo_fails_29 hls ?_
    refine e_Mo_fails_30 hm2.1 rfl ?_
    refine e_Mo_fails_33 (fun c1 => ?_) (fun c1 => ?_)
    · have : k = 0 := by
        have := (nI_leI (b := 0) (by omega) (by decide)).mp c1
        omega
      refine e_Mo_fails_40  ?_
      exact e_Mo_fails_41 (Or.inl rfl) ⟨by rw [if_pos this], hm2, fr.set ⟨by omega, by omega⟩⟩
    · have : k ≠ 0 := by
        rintro rfl
        exact c1 (by decide)
      refine e_Mo_fails_36  ?_
      refine e_Mo_fails_37  ?_
      exact e_Mo_fails_41 (Or.inr rfl) ⟨by rw [if_neg this], hm2, fr.set ⟨by omega, by omega⟩⟩
  unfold fk
  refine tv_ct rfl (by decide +kernel) (by simp [Value.category]) (Nat.le_of_ble_eq_true rfl) ?_
  refine e_Mo_fails_0 rfl ?_
  refine e_Mo_fails_1 rfl ?_
  refine e_Mo_fails_2 (fun c1 => ?_) (fun c1 => ?_)
  · rw [if_pos c1]
    refine e_Mo_fails_9 rfl ?_
    refine e_Mo_fails_10 (fun c2 => ?_) (fun c2 => ?_)
    · rw [if_pos c2]
      refine e_Mo_fails_17 rfl ?_
      refine e_Mo_fails_18 (fun c3 => ?_) (fun c3 => ?_)
      · rw [show (if d = 0 then 0 else 3 : Nat) = 0 from if_pos c3]
        refine e_Mo_fails_25  ?_
        exact tail 0 (by decide) _ rfl
      · rw [show (if d = 0 then 0 else 3 : Nat) = 3 from if_neg c3]
        refine e_Mo_fails_21  ?_
        refine e_Mo_fails_22  ?_
        exact tail 3 (by decide) _ rfl
    · rw [if_neg c2]
      refine e_Mo_fails_13  ?_
      refine e_Mo_fails_14  ?_
      exact tail 2 (by decide) _ rfl
  · rw [if_neg c1]
    refine e_Mo_fails_5  ?_
    refine e_Mo_fails_6  ?_
    exact tail 1 (by decide) _ rfl
theorem c_Mo_isTree : tv_Ct G mm_Mo_isTree [.int x] h 0 0 (rv (.int (if it x then 1 else 0)) (fun h' => h' = h)) := by
  refine tv_ct rfl (by decide +kernel) (by simp [Value.category]) (Nat.le_of_ble_eq_true rfl) ?_
  refine e_Mo_isTree_0 rfl ?_
  refine e_Mo_isTree_1 (fun c1 => ?_) (fun c1 => ?_)
  · refine e_Mo_isTree_9  ?_
    refine e_Mo_isTree_10  ?_
    exact e_Mo_isTree_14 (Or.inr rfl) ⟨by rw [if_pos (Or.inl c1)], rfl⟩
  · refine e_Mo_isTree_4 rfl ?_
    refine e_Mo_isTree_5  ?_
    refine e_Mo_isTree_6 (fun c2 => ?_) (fun c2 => ?_)
    · refine e_Mo_isTree_13  ?_
      exact e_Mo_isTree_14 (Or.inl rfl) ⟨by rw [if_neg (show ¬ it x from by rintro (q | q); exact c1 q; exact c2 q)], rfl⟩
    · refine e_Mo_isTree_9  ?_
      refine e_Mo_isTree_10  ?_
      exact e_Mo_isTree_14 (Or.inr rfl) ⟨by rw [if_pos (Or.inr c2)], rfl⟩
theorem c_Mo_isLetter {d : Nat} (hd : d < 256) : tv_Ct G mm_Mo_isLetter [.int (nI d)] h 0 0 (rv (.int (if isN d then 1 else 0)) (fun h' => h' = h)) := by
  have no : ¬ isN d → tv_Ev G mm_Mo_isLetter 28 [some (.int (nI d))] [] h 0 0 (rv (.int (if isN d then 1 else 0)) (fun h' => h' = h)) := by
    intro hn
    refine e_Mo_isLetter_28  ?_
    exact e_Mo_isLetter_29 (Or.inl rfl) ⟨by rw [if_neg hn], rfl⟩
  have yes : isN d → tv_Ev G mm_Mo_isLetter 24 [some (.int (nI d))] [] h 0 0 (rv (.int (if isN d then 1 else 0)) (fun h' => h' = h)) := by
    intro hn
    refine e_Mo_isLetter_24  ?_
    refine e_Mo_isLetter_25  ?_
    exact e_Mo_isLetter_29 (Or.inr rfl) ⟨by rw [if_pos hn], rfl⟩
  have mid : ¬ (97 ≤ d ∧ d ≤ 122) → tv_Ev G mm_Mo_isLetter 12 [some (.int (nI d))] [] h 0 0 (rv (.int (if isN d then 1 else 0)) (fun h' => h' = h)) := by
    intro hn
    refine e_Mo_isLetter_12 rfl ?_
    refine e_Mo_isLetter_13  ?_
    refine e_Mo_isLetter_15 (fun c1 => ?_) (fun c1 => ?_)
    · have := (nI_ltI (b := 48) (by omega) (by decide)).mp c1
      exact no (by rintro (q | q); exact hn q; omega)
    · have c1 : 48 ≤ d := by
        rcases Nat.lt_or_ge d 48 with w | w
        · exact absurd (nI_lt (b := 48) w (by decide)) c1
        · exact w
      refine e_Mo_isLetter_18 rfl ?_
      refine e_Mo_isLetter_19  ?_
      refine e_Mo_isLetter_21 (fun c2 => ?_) (fun c2 => ?_)
      · have := (nI_ltI (a := 57) (by decide) (by omega)).mp c2
        exact no (by rintro (q | q); exact hn q; omega)
      · have c2 : d ≤ 57 := by
          rcases Nat.lt_or_ge 57 d with w | w
          · exact absurd (nI_lt (a := 57) w (by omega)) c2
          · exact w
        exact yes (Or.inr ⟨c1, c2⟩)
  refine tv_ct rfl (by decide +kernel) (by simp [Value.category]) (Nat.le_of_ble_eq_true rfl) ?_
  refine e_Mo_isLetter_0 rfl ?_
  refine e_Mo_isLetter_1  ?_
  refine e_Mo_isLetter_3 (fun c1 => ?_) (fun c1 => ?_)
  · have := (nI_ltI (b := 97) (by omega) (by decide)).mp c1
    exact mid (by omega)
  · have c1 : 97 ≤ d := by
      rcases Nat.lt_or_ge d 97 with w | w
      · exact absurd (nI_lt (b := 97) w (by decide)) c1
      · exact w
    refine e_Mo_isLetter_6 rfl ?_
    refine e_Mo_isLetter_7  ?_
    refine e_Mo_isLetter_9 (fun c2 => ?_) (fun c2 => ?_)
    · have := (nI_leI (b := 122) (by omega) (by decide)).mp c2
      exact yes (Or.inl ⟨c1, this⟩)
    · have : 122 < d := by
        rcases Nat.lt_or_ge 122 d with w | w
        · exact w
        · exact absurd (nI_le (b := 122) w (by decide)) c2
      exact mid (by omega)
theorem c_Mo_byteOf {a b d : Int32} {k : Nat} (hk : k < 12) : tv_Ct G mm_Mo_byteOf [.int (nI k), .int a, .int b, .int d] h 0 0 (rv (.int (nI (yk a b d k))) (fun h' => h' = h)) := by
  have tail : ∀ v : Int32, v = (if k < 4 then a else if k < 8 then b else d) → tv_Ev G mm_Mo_byteOf 20 [some (.int (nI k)), some (.int a), some (.int b), some (.int d), none] [.int v] h 0 0 (rv (.int (nI (yk a b d k))) (fun h' => h' = h)) := by
    intro v hv
    refine e_Mo_byteOf_20 (Nat.le_of_ble_eq_true rfl) ?_
    refine e_Mo_byteOf_22 rfl ?_
    refine e_Mo_byteOf_24  ?_
    refine e_Mo_byteOf_26 rfl ?_
    refine e_Mo_byteOf_27  ?_
    refine e_Mo_byteOf_28  ?_
    refine e_Mo_byteOf_29  ?_
    refine e_Mo_byteOf_30  ?_
    refine e_Mo_byteOf_31  ?_
    refine e_Mo_byteOf_34  ?_
    rw [and3 k hk, wb_sar v (by omega)]
    exact e_Mo_byteOf_35 ⟨by unfold yk; rw [hv], rfl⟩
  refine tv_ct rfl (by decide +kernel) (by simp [Value.category]) (Nat.le_of_ble_eq_true rfl) ?_
  refine e_Mo_byteOf_0 rfl ?_
  refine e_Mo_byteOf_1  ?_
  refine e_Mo_byteOf_2 (fun c1 => ?_) (fun c1 => ?_)
  · have c1 := (nI_leI (a := 4) (by decide) (by omega)).mp c1
    refine e_Mo_byteOf_9 rfl ?_
    refine e_Mo_byteOf_10  ?_
    refine e_Mo_byteOf_12 (fun c2 => ?_) (fun c2 => ?_)
    · have c2 := (nI_leI (a := 8) (by decide) (by omega)).mp c2
      refine e_Mo_byteOf_19 rfl ?_
      exact tail d (by rw [if_neg (by omega), if_neg (by omega)])
    · have c2 : k < 8 := by
        rcases Nat.lt_or_ge k 8 with w | w
        · exact w
        · exact absurd (nI_le (a := 8) w (by omega)) c2
      refine e_Mo_byteOf_15 rfl ?_
      refine e_Mo_byteOf_16  ?_
      exact tail b (by rw [if_neg (by omega), if_pos c2])
  · have c1 : k < 4 := by
      rcases Nat.lt_or_ge k 4 with w | w
      · exact w
      · exact absurd (nI_le (a := 4) w (by omega)) c1
    refine e_Mo_byteOf_5 rfl ?_
    refine e_Mo_byteOf_6  ?_
    exact tail a (by rw [if_pos c1])
theorem l_Mo_lay {a b d : Int32} (hr : r < 124) : ∀ j k, j + k = 12 → ∀ hc M' (g : Int32) (m : Nat) u, mh hc th us M' → fr mS h hc → km (fun q => q = r) no_ M M' → (∀ i c, (pk_ a b d k)[i]? = some c → M' 0 (20 * r + i) = nI c) → (g = 0 ∨ g = 1) → (g = 1 → wa 0 (pk_ a b d k) = some m) → (g = 0 → wa 0 (pk_ a b d k) = none) → m ≤ k → tv_Ev G mm_Mo_lay 15 [some (.ref 497), some (.int (nI r)), some (.int a), some (.int b), some (.int d), some (.int (nI (pk_ a b d k).length)), some (.int (nI m)), some (.int (nI ((pk_ a b d k).count 47 + 1))), some (.int g), some (.int (nI k)), u] [] hc c z (rv (.int (if wf (w3 a b d) = true then 1 else 0)) (fun h' => (∃ M', mh h' th us M' ∧ mp M' r (w3 a b d) ∧ km (fun q => q = r) no_ M M') ∧ fr mS h h')) := by
  intro j
  induction j with
  | zero =>
    intro k hk hc M' g m u hm hf hkm hs hg hg1 hg0 hmk
    have hk : k = 12 := by omega
    subst hk
    have hl := pk_len a b d 12
    have hcn := List.count_le_length (l := pk_ a b d 12) (a := 47)
    rw [pk_12] at hs hg1 hg0 hl hcn ⊢
    refine e_Mo_lay_15 rfl ?_
    refine e_Mo_lay_17  ?_
    refine e_Mo_lay_19 (fun _ => ?_) (fun c1 => absurd (by decide) c1)
    refine e_Mo_lay_139 rfl ?_
    refine e_Mo_lay_140 hm.1 rfl ?_
    refine e_Mo_lay_143 rfl ?_
    refine e_Mo_lay_144 rfl ?_
    refine e_Mo_lay_146 (r) hm.a1 rfl (ml (a := 1) (show r < 124 by omega)) mlen ?_
    have hm2 := hm.s1 (i := r) (v := nI (w3 a b d).length)
    have P2 : (fun h' => (∃ M', mh h' th us M' ∧ mp M' r (w3 a b d) ∧ km (fun q => q = r) no_ M M') ∧ fr mS h h') (hc.set 499 (101, (mar M' 1).set r (.int (nI (w3 a b d).length)))) := ⟨⟨_, hm2, ⟨mu_at, by omega, fun i c hi => (mu_ne (by omega)).trans (hs i c hi)⟩, hkm.tr km.mu1⟩, hf.tr (fr.set ⟨by omega, by omega⟩)⟩
    have no : wf (w3 a b d) = false → ∀ ls, tv_Ev G mm_Mo_lay 167 ls [] (hc.set 499 (101, (mar M' 1).set r (.int (nI (w3 a b d).length)))) c z (rv (.int (if wf (w3 a b d) = true then 1 else 0)) (fun h' => (∃ M', mh h' th us M' ∧ mp M' r (w3 a b d) ∧ km (fun q => q = r) no_ M M') ∧ fr mS h h')) := by
      intro hw ls
      refine e_Mo_lay_167  ?_
      exact e_Mo_lay_168 (Or.inl rfl) ⟨by rw [hw]; rfl, P2⟩
    refine e_Mo_lay_147 rfl ?_
    rcases hg with rfl | rfl
    · refine e_Mo_lay_149 (fun _ => ?_) (fun c1 => absurd rfl c1)
      exact no (by unfold wf; rw [hg0 rfl]) _
    · have hw := hg1 rfl
      refine e_Mo_lay_149 (fun c1 => absurd c1 (by decide)) (fun _ => ?_)
      refine e_Mo_lay_152 rfl ?_
      refine e_Mo_lay_154 (fun c1 => ?_) (fun c1 => ?_)
      · have : m = 0 := by
          have := (nI_leI (b := 0) (by omega) (by decide)).mp c1
          omega
        subst this
        exact no (by unfold wf; rw [hw]; rfl) _
      · have hm0 : 0 < m := by
          rcases Nat.eq_zero_or_pos m with w | w
          · subst w; exact absurd (by decide) c1
          · exact w
        have hne : w3 a b d ≠ [] := by
          intro e
          rw [e, wa] at hw
          have := Option.some.inj hw
          omega
        have hnm : nms (w3 a b d) = (w3 a b d).count 47 + 1 := by unfold nms; rw [if_neg hne]
        refine e_Mo_lay_157 rfl ?_
        refine e_Mo_lay_159  ?_
        refine e_Mo_lay_160 (fun c2 => ?_) (fun c2 => ?_)
        · have := (nI_leI (a := 5) (by decide) (by omega)).mp c2
          refine no ?_ _
          unfold wf
          rw [hw, hnm]
          simp
          intro _
          omega
        · have c2 : (w3 a b d).count 47 + 1 < 5 := by
            rcases Nat.lt_or_ge ((w3 a b d).count 47 + 1) 5 with w | w
            · exact w
            · exact absurd (nI_le (a := 5) w (by omega)) c2
          have hwf : wf (w3 a b d) = true := by
            unfold wf
            rw [hw, hnm]
            simp
            omega
          refine e_Mo_lay_163  ?_
          refine e_Mo_lay_164  ?_
          exact e_Mo_lay_168 (Or.inr rfl) ⟨by rw [if_pos hwf], P2⟩
  | succ j ih =>
    intro k hk hc M' g m u hm hf hkm hs hg hg1 hg0 hmk
    have hl := pk_len a b d k
    have hcn := List.count_le_length (l := pk_ a b d k) (a := 47)
    have hy := yk_lt a b d k
    have hi := ih (k + 1) (by omega)
    rw [pk_s, nI_succ k] at hi
    refine e_Mo_lay_15 rfl ?_
    refine e_Mo_lay_17  ?_
    refine e_Mo_lay_19 (fun c1 => absurd c1 (nI_ge (b := 12) (by omega) (by decide))) (fun _ => ?_)
    refine e_Mo_lay_22 rfl ?_
    refine e_Mo_lay_24 rfl ?_
    refine e_Mo_lay_25 rfl ?_
    refine e_Mo_lay_26 rfl ?_
    refine e_Mo_lay_28 (by decide) (c_Mo_byteOf (k := k) (by omega)) (kp ?_) xn
    refine e_Mo_lay_31 (Nat.le_of_ble_eq_true rfl) ?_
    refine e_Mo_lay_33 rfl ?_
    by_cases y0 : yk a b d k = 0
    · rw [if_pos y0, List.append_nil] at hi
      rw [y0]
      refine e_Mo_lay_35 (fun c1 => absurd rfl c1) (fun _ => ?_)
      refine e_Mo_lay_38  ?_
      refine e_Mo_lay_133 rfl ?_
      refine e_Mo_lay_136  ?_
      exact hi hc M' g m _ hm hf hkm hs hg hg1 hg0 (by omega)
    · rw [if_neg y0] at hi
      refine e_Mo_lay_35 (fun _ => ?_) (fun c1 => absurd ((nI_eq (b := 0) (by omega) (by decide)).mp c1) y0)
      refine e_Mo_lay_41 rfl ?_
      refine e_Mo_lay_42 hm.1 rfl ?_
      refine e_Mo_lay_45  ?_
      refine e_Mo_lay_47 rfl ?_
      refine e_Mo_lay_48  ?_
      refine e_Mo_lay_49 rfl ?_
      refine e_Mo_lay_51  ?_
      refine e_Mo_lay_52 rfl ?_
      refine e_Mo_lay_54 (20 * r + (pk_ a b d k).length) hm.a0 (ix20 _ _) (ml (a := 0) (show 20 * r + (pk_ a b d k).length < 2480 by omega)) mlen ?_
      have hm2 := hm.s0 (i := 20 * r + (pk_ a b d k).length) (v := nI (yk a b d k))
      have k2 : km (fun q => q = r) no_ M' (mu M' 0 (20 * r + (pk_ a b d k).length) (nI (yk a b d k))) := km.mu0 (by omega)
      have hs2 : ∀ i c, (pk_ a b d k ++ [yk a b d k])[i]? = some c → mu M' 0 (20 * r + (pk_ a b d k).length) (nI (yk a b d k)) 0 (20 * r + i) = nI c := by
        intro i c hi
        rcases Nat.lt_or_ge i (pk_ a b d k).length with w | w
        · rw [List.getElem?_append_left w] at hi
          rw [mu_ne (by omega)]
          exact hs i c hi
        · rw [List.getElem?_append_right w] at hi
          have hi0 : i = (pk_ a b d k).length := by
            have := (List.getElem?_eq_some_iff.mp hi).1
            simp at this
            omega
          subst hi0
          rw [Nat.sub_self] at hi
          rw [mu_at, ← Option.some.inj hi]
      have tail : ∀ g' : Int32, (g' = 0 ∨ g' = 1) → (g' = 1 → wa 0 (pk_ a b d k ++ [yk a b d k]) = some (if yk a b d k = 47 then 0 else m + 1)) → (g' = 0 → wa 0 (pk_ a b d k ++ [yk a b d k]) = none) → tv_Ev G mm_Mo_lay 97 [some (.ref 497), some (.int (nI r)), some (.int a), some (.int b), some (.int d), some (.int (nI (pk_ a b d k).length + 1)), some (.int (nI m)), some (.int (nI ((pk_ a b d k).count 47 + 1))), some (.int g), some (.int (nI k)), some (.int (nI (yk a b d k)))] [.int g'] (hc.set 498 (101, (mar M' 0).set (20 * r + (pk_ a b d k).length) (.int (nI (yk a b d k))))) c z (rv (.int (if wf (w3 a b d) = true then 1 else 0)) (fun h' => (∃ M', mh h' th us M' ∧ mp M' r (w3 a b d) ∧ km (fun q => q = r) no_ M M') ∧ fr mS h h')) := by
        intro g' q0 q1 q2
        have hi2 := hi _ _ g' (if yk a b d k = 47 then 0 else m + 1) (some (.int (nI (yk a b d k)))) hm2 (hf.tr (fr.set ⟨by omega, by omega⟩)) (hkm.tr k2) hs2 q0 q1 q2 (by split <;> omega)
        rw [List.length_append, List.length_singleton, List.count_append, List.count_singleton, nI_succ (pk_ a b d k).length] at hi2
        refine e_Mo_lay_97 (Nat.le_of_ble_eq_true rfl) ?_
        refine e_Mo_lay_99 rfl ?_
        refine e_Mo_lay_101 rfl ?_
        refine e_Mo_lay_103  ?_
        by_cases e : yk a b d k = 47
        · rw [if_pos e, if_pos (by simpa using e)] at hi2
          rw [e] at hi2 ⊢
          refine e_Mo_lay_105 (fun c1 => absurd rfl c1) (fun _ => ?_)
          refine e_Mo_lay_108  ?_
          refine e_Mo_lay_109  ?_
          refine e_Mo_lay_113  ?_
          refine e_Mo_lay_114 (Nat.le_of_ble_eq_true rfl) ?_
          refine e_Mo_lay_116 rfl ?_
          refine e_Mo_lay_118  ?_
          refine e_Mo_lay_120 (fun c1 => absurd rfl c1) (fun _ => ?_)
          refine e_Mo_lay_123  ?_
          refine e_Mo_lay_124  ?_
          refine e_Mo_lay_131 (Nat.le_of_ble_eq_true rfl) ?_
          refine e_Mo_lay_133 rfl ?_
          refine e_Mo_lay_136  ?_
          rw [nI_1 ((pk_ a b d k).count 47 + 1)]
          exact hi2
        · rw [if_neg e, if_neg (by simpa using e), Nat.add_zero, nI_succ m] at hi2
          have ne : ¬ nI (yk a b d k) = 47 := fun w => e ((nI_eq (b := 47) (by omega) (by decide)).mp w)
          refine e_Mo_lay_105 (fun _ => ?_) (fun c1 => absurd c1 ne)
          refine e_Mo_lay_112  ?_
          refine e_Mo_lay_113  ?_
          refine e_Mo_lay_114 (Nat.le_of_ble_eq_true rfl) ?_
          refine e_Mo_lay_116 rfl ?_
          refine e_Mo_lay_118  ?_
          refine e_Mo_lay_120 (fun _ => ?_) (fun c1 => absurd c1 ne)
          refine e_Mo_lay_127 rfl ?_
          refine e_Mo_lay_129  ?_
          refine e_Mo_lay_130  ?_
          refine e_Mo_lay_131 (Nat.le_of_ble_eq_true rfl) ?_
          refine e_Mo_lay_133 rfl ?_
          refine e_Mo_lay_136  ?_
          rw [show nI ((pk_ a b d k).count 47 + 1) + 0 = nI ((pk_ a b d k).count 47 + 1) from Int32.add_zero _]
          exact hi2
      have hwa : ∀ m0, wa 0 (pk_ a b d k) = some m0 → wa 0 (pk_ a b d k ++ [yk a b d k]) = wa m0 [yk a b d k] := fun m0 e => by rw [wa_app, e]; rfl
      have hwn : wa 0 (pk_ a b d k) = none → wa 0 (pk_ a b d k ++ [yk a b d k]) = none := fun e => by rw [wa_app, e]; rfl
      have bad : wa 0 (pk_ a b d k ++ [yk a b d k]) = none → tv_Ev G mm_Mo_lay 96 [some (.ref 497), some (.int (nI r)), some (.int a), some (.int b), some (.int d), some (.int (nI (pk_ a b d k).length + 1)), some (.int (nI m)), some (.int (nI ((pk_ a b d k).count 47 + 1))), some (.int g), some (.int (nI k)), some (.int (nI (yk a b d k)))] [] (hc.set 498 (101, (mar M' 0).set (20 * r + (pk_ a b d k).length) (.int (nI (yk a b d k))))) c z (rv (.int (if wf (w3 a b d) = true then 1 else 0)) (fun h' => (∃ M', mh h' th us M' ∧ mp M' r (w3 a b d) ∧ km (fun q => q = r) no_ M M') ∧ fr mS h h')) := by
        intro e
        refine e_Mo_lay_96  ?_
        exact tail 0 (Or.inl rfl) (fun w => absurd w (by decide)) (fun _ => e)
      have good : wa 0 (pk_ a b d k ++ [yk a b d k]) = some (if yk a b d k = 47 then 0 else m + 1) → tv_Ev G mm_Mo_lay 92 [some (.ref 497), some (.int (nI r)), some (.int a), some (.int b), some (.int d), some (.int (nI (pk_ a b d k).length + 1)), some (.int (nI m)), some (.int (nI ((pk_ a b d k).count 47 + 1))), some (.int g), some (.int (nI k)), some (.int (nI (yk a b d k)))] [] (hc.set 498 (101, (mar M' 0).set (20 * r + (pk_ a b d k).length) (.int (nI (yk a b d k))))) c z (rv (.int (if wf (w3 a b d) = true then 1 else 0)) (fun h' => (∃ M', mh h' th us M' ∧ mp M' r (w3 a b d) ∧ km (fun q => q = r) no_ M M') ∧ fr mS h h')) := by
        intro e
        refine e_Mo_lay_92  ?_
        refine e_Mo_lay_93  ?_
        exact tail 1 (Or.inr rfl) (fun _ => e) (fun w => absurd w (by decide))
      refine e_Mo_lay_55 rfl ?_
      refine e_Mo_lay_58 rfl ?_
      rcases hg with rfl | rfl
      · refine e_Mo_lay_60 (fun _ => ?_) (fun c1 => absurd rfl c1)
        exact bad (hwn (hg0 rfl))
      · have hw := hwa m (hg1 rfl)
        refine e_Mo_lay_60 (fun c1 => absurd c1 (by decide)) (fun _ => ?_)
        refine e_Mo_lay_63 rfl ?_
        refine e_Mo_lay_65  ?_
        by_cases e : yk a b d k = 47
        · have ne : nI (yk a b d k) = 47 := by rw [e]; rfl
          refine e_Mo_lay_67 (fun c1 => absurd ne c1) (fun _ => ?_)
          refine e_Mo_lay_70 rfl ?_
          refine e_Mo_lay_72 (fun c1 => ?_) (fun c1 => ?_)
          · have : m = 0 := by
              have := (nI_leI (b := 0) (by omega) (by decide)).mp c1
              omega
            refine bad ?_
            rw [hw, e, this]
            rfl
          · have hm0 : 0 < m := by
              rcases Nat.eq_zero_or_pos m with w | w
              · subst w; exact absurd (by decide) c1
              · exact w
            refine e_Mo_lay_75  ?_
            refine good ?_
            rw [hw, wa, if_pos ⟨e, hm0⟩, if_pos e]
            rfl
        · have ne : ¬ nI (yk a b d k) = 47 := fun w => e ((nI_eq (b := 47) (by omega) (by decide)).mp w)
          have hw2 : wa m [yk a b d k] = if isN (yk a b d k) ∧ m < 4 then some (m + 1) else none := by
            rw [wa, if_neg (fun w => e w.1)]
            rfl
          refine e_Mo_lay_67 (fun _ => ?_) (fun c1 => absurd c1 ne)
          refine e_Mo_lay_78 rfl ?_
          refine e_Mo_lay_80 (by decide) (c_Mo_isLetter hy) (kp ?_) xn
          by_cases e2 : isN (yk a b d k)
          · rw [if_pos e2]
            refine e_Mo_lay_83 (fun c1 => absurd c1 (by decide)) (fun _ => ?_)
            refine e_Mo_lay_86 rfl ?_
            refine e_Mo_lay_88  ?_
            refine e_Mo_lay_89 (fun c1 => ?_) (fun c1 => ?_)
            · have := (nI_leI (a := 4) (by decide) (by omega)).mp c1
              refine bad ?_
              rw [hw, hw2, if_neg (by omega)]
            · have c1 : m < 4 := by
                rcases Nat.lt_or_ge m 4 with w | w
                · exact w
                · exact absurd (nI_le (a := 4) w (by omega)) c1
              refine good ?_
              rw [hw, hw2, if_pos ⟨e2, c1⟩, if_neg e]
          · rw [if_neg e2]
            refine e_Mo_lay_83 (fun _ => ?_) (fun c1 => absurd rfl c1)
            refine bad ?_
            rw [hw, hw2, if_neg (fun w => e2 w.1)]
theorem c_Mo_lay {a b d : Int32} (hm : mh h th us M) (hr : r < 124) : tv_Ct G mm_Mo_lay [.ref 497, .int (nI r), .int a, .int b, .int d] h 0 0 (rv (.int (if wf (w3 a b d) = true then 1 else 0)) (fun h' => (∃ M', mh h' th us M' ∧ mp M' r (w3 a b d) ∧ km (fun q => q = r) no_ M M') ∧ fr mS h h')) := by
  refine tv_ct rfl (by decide +kernel) (by simp [Value.category]) (Nat.le_of_ble_eq_true rfl) ?_
  refine e_Mo_lay_0  ?_
  refine e_Mo_lay_1 (Nat.le_of_ble_eq_true rfl) ?_
  refine e_Mo_lay_3  ?_
  refine e_Mo_lay_4 (Nat.le_of_ble_eq_true rfl) ?_
  refine e_Mo_lay_6  ?_
  refine e_Mo_lay_7 (Nat.le_of_ble_eq_true rfl) ?_
  refine e_Mo_lay_9  ?_
  refine e_Mo_lay_10 (Nat.le_of_ble_eq_true rfl) ?_
  refine e_Mo_lay_12  ?_
  refine e_Mo_lay_13 (Nat.le_of_ble_eq_true rfl) ?_
  exact l_Mo_lay hr 12 0 rfl h M 1 0 none hm fr.rf km.rf (fun i c hi => by cases hi) (Or.inr rfl) (fun _ => rfl) (fun e => absurd e (by decide)) (Nat.le_refl _)
theorem l_Mo_many : ∀ j k, j + k = 4 → tv_Ev G mm_Mo_many 4 [some (.int w), some (.int (nI (wbk w k).length)), some (.int (nI k))] [] h c z (rv (.int (nI (wbk w 4).length)) (fun h' => h' = h)) := by
  intro j
  induction j with
  | zero =>
    intro k hk
    have hk : k = 4 := by omega
    subst hk
    refine e_Mo_many_4 rfl ?_
    refine e_Mo_many_5  ?_
    refine e_Mo_many_6 (fun _ => ?_) (fun c1 => absurd (by decide) c1)
    refine e_Mo_many_36 rfl ?_
    exact e_Mo_many_37 ⟨rfl, rfl⟩
  | succ j ih =>
    intro k hk
    have hy := wb_lt w k
    have hi := ih (k + 1) (by omega)
    rw [wbk_s, nI_succ k] at hi
    refine e_Mo_many_4 rfl ?_
    refine e_Mo_many_5  ?_
    refine e_Mo_many_6 (fun c1 => absurd c1 (nI_ge (b := 4) (by omega) (by decide))) (fun _ => ?_)
    refine e_Mo_many_9 rfl ?_
    refine e_Mo_many_10 rfl ?_
    refine e_Mo_many_11  ?_
    refine e_Mo_many_13 rfl ?_
    refine e_Mo_many_14  ?_
    refine e_Mo_many_15  ?_
    refine e_Mo_many_16  ?_
    refine e_Mo_many_19  ?_
    rw [wb_sar w (by omega)]
    refine e_Mo_many_20 (fun c1 => ?_) (fun c1 => ?_)
    · have h0 : wb w k = 0 := by
        have := (nI_leI (b := 0) (by omega) (by decide)).mp c1
        omega
      rw [if_pos h0, List.append_nil] at hi
      refine e_Mo_many_27  ?_
      refine e_Mo_many_28  ?_
      refine e_Mo_many_29 (Nat.le_of_ble_eq_true rfl) ?_
      refine e_Mo_many_30 rfl ?_
      refine e_Mo_many_33  ?_
      rw [show nI (wbk w k).length + 0 = nI (wbk w k).length from Int32.add_zero _]
      exact hi
    · have h0 : wb w k ≠ 0 := by
        intro e
        rw [e] at c1
        exact c1 (by decide)
      rw [if_neg h0, List.length_append, List.length_singleton, nI_succ (wbk w k).length] at hi
      refine e_Mo_many_23  ?_
      refine e_Mo_many_24  ?_
      refine e_Mo_many_28  ?_
      refine e_Mo_many_29 (Nat.le_of_ble_eq_true rfl) ?_
      refine e_Mo_many_30 rfl ?_
      refine e_Mo_many_33  ?_
      exact hi
theorem c_Mo_many : tv_Ct G mm_Mo_many [.int w] h 0 0 (rv (.int (nI (wbk w 4).length)) (fun h' => h' = h)) := by
  refine tv_ct rfl (by decide +kernel) (by simp [Value.category]) (Nat.le_of_ble_eq_true rfl) ?_
  refine e_Mo_many_0  ?_
  refine e_Mo_many_1 (Nat.le_of_ble_eq_true rfl) ?_
  refine e_Mo_many_2  ?_
  refine e_Mo_many_3 (Nat.le_of_ble_eq_true rfl) ?_
  exact l_Mo_many 4 0 rfl
theorem l_Mo_append {kd : Int32} {cs : List Nat} (hr : r < 120) (hl : cs.length + (wbk w 4).length ≤ 16) : ∀ j k, j + k = 4 → ∀ hc M' u, mh hc th us M' → fr mS h hc → me M' r (p, kd, cs ++ wbk w k) → km (fun q => q = r) no_ M M' → tv_Ev G mm_Mo_append 2 [some (.ref 497), some (.int (nI r)), some (.int w), some (.int (nI k)), u] [] hc c z (rn (fun h' => (∃ M', mh h' th us M' ∧ me M' r (p, kd, cs ++ wbk w 4) ∧ km (fun q => q = r) no_ M M') ∧ fr mS h h')) := by
  intro j
  induction j with
  | zero =>
    intro k hk hc M' u hm hf he hkm
    have hk : k = 4 := by omega
    subst hk
    refine e_Mo_append_2 rfl ?_
    refine e_Mo_append_3  ?_
    refine e_Mo_append_4 (fun _ => ?_) (fun c1 => absurd (by decide) c1)
    exact e_Mo_append_58 ⟨rfl, ⟨M', hm, he, hkm⟩, hf⟩
  | succ j ih =>
    intro k hk hc M' u hm hf he hkm
    have hy := wb_lt w k
    have hi := ih (k + 1) (by omega)
    have hmono := wbk_mono w (k := k + 1) (m := 4) (by omega)
    rw [wbk_s] at hmono
    rw [wbk_s, nI_succ k] at hi
    refine e_Mo_append_2 rfl ?_
    refine e_Mo_append_3  ?_
    refine e_Mo_append_4 (fun c1 => absurd c1 (nI_ge (b := 4) (by omega) (by decide))) (fun _ => ?_)
    refine e_Mo_append_7 rfl ?_
    refine e_Mo_append_8  ?_
    refine e_Mo_append_10 rfl ?_
    refine e_Mo_append_11  ?_
    refine e_Mo_append_12  ?_
    refine e_Mo_append_13  ?_
    refine e_Mo_append_16  ?_
    rw [wb_sar w (by omega)]
    refine e_Mo_append_17 (Nat.le_of_ble_eq_true rfl) ?_
    refine e_Mo_append_19 rfl ?_
    refine e_Mo_append_21 (fun c1 => ?_) (fun c1 => ?_)
    · have h0 : wb w k = 0 := by
        have := (nI_leI (b := 0) (by omega) (by decide)).mp c1
        omega
      rw [if_pos h0, List.append_nil] at hi
      refine e_Mo_append_52 rfl ?_
      refine e_Mo_append_55  ?_
      exact hi hc M' _ hm hf he hkm
    · have h0 : wb w k ≠ 0 := by
        intro e
        rw [e] at c1
        exact c1 (by decide)
      rw [if_neg h0, ← List.append_assoc] at hi
      rw [if_neg h0, List.length_append, List.length_singleton] at hmono
      have hle : (cs ++ wbk w k).length < 16 := by rw [List.length_append]; omega
      have h4 := he.2.2.1
      refine e_Mo_append_24 rfl ?_
      refine e_Mo_append_25 hm.1 rfl ?_
      refine e_Mo_append_28  ?_
      refine e_Mo_append_30 rfl ?_
      refine e_Mo_append_31  ?_
      refine e_Mo_append_32 rfl ?_
      refine e_Mo_append_33 hm.1 rfl ?_
      refine e_Mo_append_36 rfl ?_
      refine e_Mo_append_37 (r) hm.a4 rfl (md (a := 4) (show r < 120 by omega)) mlen ?_
      rw [h4]
      refine e_Mo_append_38  ?_
      refine e_Mo_append_39 rfl ?_
      refine e_Mo_append_41 (16 * r + (cs ++ wbk w k).length) hm.a5 (ix16 _ _) (ml (a := 5) (show 16 * r + (cs ++ wbk w k).length < 1920 by omega)) mlen ?_
      have hm2 := hm.s5 (i := 16 * r + (cs ++ wbk w k).length) (v := nI (wb w k))
      refine e_Mo_append_42 rfl ?_
      refine e_Mo_append_43 hm2.1 rfl ?_
      refine e_Mo_append_46 rfl ?_
      refine e_Mo_append_47 rfl rfl ?_
      refine e_Mo_append_48 (r) hm2.a4 rfl (md (a := 4) (show r < 120 by omega)) mlen ?_
      refine e_Mo_append_49  ?_
      rw [mu_ne (by omega), h4]
      refine e_Mo_append_50  ?_
      refine e_Mo_append_51 (r) hm2.a4 rfl (ml (a := 4) (show r < 120 by omega)) mlen ?_
      rw [nI_1]
      have hm3 := hm2.s4 (i := r) (v := nI ((cs ++ wbk w k).length + 1))
      have k2 : km (fun q => q = r) no_ M' (mu (mu M' 5 (16 * r + (cs ++ wbk w k).length) (nI (wb w k))) 4 r (nI ((cs ++ wbk w k).length + 1))) := (km.mu5 hle).tr km.mu4
      refine e_Mo_append_52 rfl ?_
      refine e_Mo_append_55  ?_
      refine hi _ _ _ hm3 ((hf.tr (fr.set ⟨by omega, by omega⟩)).tr (fr.set ⟨by omega, by omega⟩)) ⟨he.1.k (by rw [mu_ne (by omega), mu_ne (by omega)]) (fun i _ => by rw [mu_ne (by omega), mu_ne (by omega)]), ?_, ?_, ?_, fun i c hi => ?_⟩ (hkm.tr k2)
      · rw [mu_ne (by omega), mu_ne (by omega)]; exact he.2.1
      · rw [mu_at]
        show _ = nI (cs ++ wbk w k ++ [wb w k]).length
        rw [List.length_append (bs := [wb w k])]
        rfl
      · show (cs ++ wbk w k ++ [wb w k]).length ≤ 16
        rw [List.length_append, List.length_singleton]
        omega
      · have hi : (cs ++ wbk w k ++ [wb w k])[i]? = some c := hi
        rcases Nat.lt_or_ge i (cs ++ wbk w k).length with q | q
        · rw [List.getElem?_append_left q] at hi
          rw [mu_ne (by omega), mu_ne (by omega)]
          exact he.2.2.2.2 i c hi
        · rw [List.getElem?_append_right q] at hi
          have hi0 : i = (cs ++ wbk w k).length := by
            have := (List.getElem?_eq_some_iff.mp hi).1
            rw [List.length_singleton] at this
            omega
          subst hi0
          rw [Nat.sub_self] at hi
          rw [mu_ne (by omega), mu_at, ← Option.some.inj hi]
theorem c_Mo_append {kd : Int32} {cs : List Nat} (hm : mh h th us M) (hr : r < 120) (hl : cs.length + (wbk w 4).length ≤ 16) (he : me M r (p, kd, cs)) : tv_Ct G mm_Mo_append [.ref 497, .int (nI r), .int w] h 0 0 (rn (fun h' => (∃ M', mh h' th us M' ∧ me M' r (p, kd, cs ++ wbk w 4) ∧ km (fun q => q = r) no_ M M') ∧ fr mS h h')) := by
  refine tv_ct rfl (by decide +kernel) (by simp [Value.category]) (Nat.le_of_ble_eq_true rfl) ?_
  refine e_Mo_append_0  ?_
  refine e_Mo_append_1 (Nat.le_of_ble_eq_true rfl) ?_
  exact l_Mo_append hr hl 4 0 rfl h M none hm fr.rf (by rw [show wbk w 0 = [] from rfl, List.append_nil]; exact he) km.rf
end
