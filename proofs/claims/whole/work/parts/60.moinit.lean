/-! the reference: a new one -/
theorem mar_0 {a N : Nat} (hN : msz a = N) : List.replicate N (Value.int 0) = mar (fun _ _ => 0) a := by
  unfold mar
  rw [List.map_const', List.length_range, hN]
def mi (h : tv_H) (k : Nat) (L : List Value) (hk : tv_H) : Prop := hk[497]? = some (5, L) ∧ gr 497 (498 + k) h hk ∧ ∀ a, a < k → hk[498 + a]? = some (101, mar (fun _ _ => 0) a)
theorem mi.step {h hk : tv_H} {k N : Nat} {L : List Value} (hm : mi h k L hk) (hN : msz k = N) (L' : List Value) : mi h (k + 1) L' ((hk ++ [(101, List.replicate N (Value.int 0))]).set 497 (5, L')) := by
  have hl := hm.2.1.1
  refine ⟨gs_eq ((ap_lt (by omega)).trans hm.1), (hm.2.1.add (by omega)).set (by omega), fun a ha => ?_⟩
  rcases Nat.lt_or_ge a k with w | w
  · exact gs_ne ((ap_lt (by omega)).trans (hm.2.2 a w)) (by omega)
  · have : a = k := by omega
    subst this
    refine gs_ne ?_ (by omega)
    rw [ap_eq hl, mar_0 hN]
section
variable {G : tv_G} {h hk : tv_H}
abbrev miQ (h : tv_H) : tv_R → tv_H → Prop := rn (fun h' => msr h' 0 ([], [], [], []) ∧ gr 497 505 h h')
theorem l_Mo_init7 (hm : mi h 7 [.int 0, .ref 498, .ref 499, .ref 500, .ref 501, .ref 502, .ref 503, .ref 504, .int 0] hk) : tv_Ev G mm_Mo_init 62 [some (.ref 497)] [] hk 0 0 (miQ h) := by
  refine e_Mo_init_62 ⟨rfl, ⟨fun _ _ => 0, ⟨hm.1, hm.2.2⟩, ⟨rfl, by decide, fun i f hi => (by simp at hi)⟩, ⟨rfl, by decide, fun i f hi => (by simp at hi)⟩, ⟨rfl, by decide, fun i f hi => (by simp at hi)⟩, fun i f hi => (by simp at hi), (by decide)⟩, hm.2.1⟩
theorem l_Mo_init6 (hm : mi h 6 [.int 0, .ref 498, .ref 499, .ref 500, .ref 501, .ref 502, .ref 503, .null, .int 0] hk) : tv_Ev G mm_Mo_init 53 [some (.ref 497)] [] hk 1 2480 (miQ h) := by
  have hl := hm.2.1.1
  refine e_Mo_init_53 rfl ?_
  refine e_Mo_init_54 ?_
  refine e_Mo_init_57 (c := 0) (z := 0) 2480 rfl (by decide) ?_
  rw [hl]
  refine e_Mo_init_59 ((ap_lt (by omega)).trans hm.1) (Nat.le_of_ble_eq_true rfl) ?_
  exact l_Mo_init7 (hm.step rfl [.int 0, .ref 498, .ref 499, .ref 500, .ref 501, .ref 502, .ref 503, .ref 504, .int 0])
theorem l_Mo_init5 (hm : mi h 5 [.int 0, .ref 498, .ref 499, .ref 500, .ref 501, .ref 502, .null, .null, .int 0] hk) : tv_Ev G mm_Mo_init 44 [some (.ref 497)] [] hk 2 4400 (miQ h) := by
  have hl := hm.2.1.1
  refine e_Mo_init_44 rfl ?_
  refine e_Mo_init_45 ?_
  refine e_Mo_init_48 (c := 1) (z := 2480) 1920 rfl (by decide) ?_
  rw [hl]
  refine e_Mo_init_50 ((ap_lt (by omega)).trans hm.1) (Nat.le_of_ble_eq_true rfl) ?_
  exact l_Mo_init6 (hm.step rfl [.int 0, .ref 498, .ref 499, .ref 500, .ref 501, .ref 502, .ref 503, .null, .int 0])
theorem l_Mo_init4 (hm : mi h 4 [.int 0, .ref 498, .ref 499, .ref 500, .ref 501, .null, .null, .null, .int 0] hk) : tv_Ev G mm_Mo_init 36 [some (.ref 497)] [] hk 3 4520 (miQ h) := by
  have hl := hm.2.1.1
  refine e_Mo_init_36 rfl ?_
  refine e_Mo_init_37 ?_
  refine e_Mo_init_39 (c := 2) (z := 4400) 120 rfl (by decide) ?_
  rw [hl]
  refine e_Mo_init_41 ((ap_lt (by omega)).trans hm.1) (Nat.le_of_ble_eq_true rfl) ?_
  exact l_Mo_init5 (hm.step rfl [.int 0, .ref 498, .ref 499, .ref 500, .ref 501, .ref 502, .null, .null, .int 0])
theorem l_Mo_init3 (hm : mi h 3 [.int 0, .ref 498, .ref 499, .ref 500, .null, .null, .null, .null, .int 0] hk) : tv_Ev G mm_Mo_init 28 [some (.ref 497)] [] hk 4 4640 (miQ h) := by
  have hl := hm.2.1.1
  refine e_Mo_init_28 rfl ?_
  refine e_Mo_init_29 ?_
  refine e_Mo_init_31 (c := 3) (z := 4520) 120 rfl (by decide) ?_
  rw [hl]
  refine e_Mo_init_33 ((ap_lt (by omega)).trans hm.1) (Nat.le_of_ble_eq_true rfl) ?_
  exact l_Mo_init4 (hm.step rfl [.int 0, .ref 498, .ref 499, .ref 500, .ref 501, .null, .null, .null, .int 0])
theorem l_Mo_init2 (hm : mi h 2 [.int 0, .ref 498, .ref 499, .null, .null, .null, .null, .null, .int 0] hk) : tv_Ev G mm_Mo_init 21 [some (.ref 497)] [] hk 5 4643 (miQ h) := by
  have hl := hm.2.1.1
  refine e_Mo_init_21 rfl ?_
  refine e_Mo_init_22 ?_
  refine e_Mo_init_23 (c := 4) (z := 4640) 3 rfl (by decide) ?_
  rw [hl]
  refine e_Mo_init_25 ((ap_lt (by omega)).trans hm.1) (Nat.le_of_ble_eq_true rfl) ?_
  exact l_Mo_init3 (hm.step rfl [.int 0, .ref 498, .ref 499, .ref 500, .null, .null, .null, .null, .int 0])
theorem l_Mo_init1 (hm : mi h 1 [.int 0, .ref 498, .null, .null, .null, .null, .null, .null, .int 0] hk) : tv_Ev G mm_Mo_init 13 [some (.ref 497)] [] hk 6 4767 (miQ h) := by
  have hl := hm.2.1.1
  refine e_Mo_init_13 rfl ?_
  refine e_Mo_init_14 ?_
  refine e_Mo_init_16 (c := 5) (z := 4643) 124 rfl (by decide) ?_
  rw [hl]
  refine e_Mo_init_18 ((ap_lt (by omega)).trans hm.1) (Nat.le_of_ble_eq_true rfl) ?_
  exact l_Mo_init2 (hm.step rfl [.int 0, .ref 498, .ref 499, .null, .null, .null, .null, .null, .int 0])
theorem l_Mo_init0 (hm : mi h 0 [.int 0, .null, .null, .null, .null, .null, .null, .null, .int 0] hk) : tv_Ev G mm_Mo_init 4 [some (.ref 497)] [] hk 7 7247 (miQ h) := by
  have hl := hm.2.1.1
  refine e_Mo_init_4 rfl ?_
  refine e_Mo_init_5 ?_
  refine e_Mo_init_8 (c := 6) (z := 4767) 2480 rfl (by decide) ?_
  rw [hl]
  refine e_Mo_init_10 ((ap_lt (by omega)).trans hm.1) (Nat.le_of_ble_eq_true rfl) ?_
  exact l_Mo_init1 (hm.step rfl [.int 0, .ref 498, .null, .null, .null, .null, .null, .null, .int 0])
theorem c_Mo_init (ha : h[497]? = some (5, [.int 0, .null, .null, .null, .null, .null, .null, .null, .int 0])) (hl : h.length = 498) : tv_Ct G mm_Mo_init [.ref 497] h 7 7247 (miQ h) := by
  refine tv_ct rfl (by decide +kernel) (by simp [Value.category]) (Nat.le_of_ble_eq_true rfl) ?_
  refine e_Mo_init_0 rfl ?_
  refine e_Mo_init_1 (by decide) ?_
  exact l_Mo_init0 ⟨ha, ⟨hl, fun _ _ => rfl⟩, fun a ha => absurd ha (Nat.not_lt_zero _)⟩
end
