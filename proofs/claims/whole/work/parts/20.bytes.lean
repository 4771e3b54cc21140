/-! Bytes: what its methods do, in lists. -/
def pm_ag (ks : List Nat) (M M' : pm_M) : Prop := ∀ k, k ∉ ks → M' k = M k
theorem pm_ag.rf {ks : List Nat} {M : pm_M} : pm_ag ks M M := fun _ _ => rfl
theorem pm_ag.tr {ks : List Nat} {M M1 M2 : pm_M} (h1 : pm_ag ks M M1) (h2 : pm_ag ks M1 M2) : pm_ag ks M M2 := fun k hk => (h2 k hk).trans (h1 k hk)
theorem pm_ag.wd {ks ks' : List Nat} {M M1 : pm_M} (h : pm_ag ks M M1) (hs : ∀ k ∈ ks, k ∈ ks') : pm_ag ks' M M1 := fun k hk => h k (fun z => hk (hs k z))
theorem pm_ag.up {ks : List Nat} {M : pm_M} {k j : Nat} {x : Int32} (hk : k ∈ ks) : pm_ag ks M (pm_up M k j x) := fun q hq => pm_up_ne (fun e => hq (e ▸ hk))
theorem pm_up_hit {M : pm_M} {k j : Nat} {x : Int32} : pm_up M k j x k j = x := by simp [pm_up]
theorem pm_up_off {M : pm_M} {k j k' j' : Nat} {x : Int32} (h : k' ≠ k ∨ j' ≠ j) : pm_up M k j x k' j' = M k' j' := by
  unfold pm_up
  rw [if_neg]
  intro z
  rcases h with h | h
  · exact h z.1
  · exact h z.2
def by_b (b : Nat) : Prop := b = 2 ∨ b = 5 ∨ b = 8
def by_c (b : Nat) : Nat := pm_wl (b + 1)
theorem by_rf {b : Nat} (h : by_b b) : pm_rf b 0 = b + 1 := by rcases h with rfl | rfl | rfl <;> rfl
theorem by_ln {S b : Nat} (h : by_b b) : pm_ln S (b + 1) = by_c b := by rcases h with rfl | rfl | rfl <;> rfl
theorem by_cl {b : Nat} (h : by_b b) : by_c b ≤ 700 := by rcases h with rfl | rfl | rfl <;> decide
def by_is (M : pm_M) (b : Nat) (l : List Int32) : Prop := M b 1 = nI l.length ∧ l.length ≤ by_c b ∧ ∀ i x, l[i]? = some x → M (b + 1) i = x
theorem by_is.keep {M M' : pm_M} {b : Nat} {l : List Int32} {ks : List Nat} (h : by_is M b l) (ha : pm_ag ks M M') (h1 : b ∉ ks) (h2 : b + 1 ∉ ks) : by_is M' b l := by
  unfold by_is
  rw [ha b h1, ha (b + 1) h2]
  exact h
theorem by_is.push {M : pm_M} {b : Nat} {l : List Int32} {x : Int32} (h : by_is M b l) (hc : l.length < by_c b) : by_is (pm_up (pm_up M (b + 1) l.length x) b 1 (nI (l.length + 1))) b (l ++ [x]) := by
  refine ⟨by rw [pm_up_hit]; simp, by simp; omega, fun i y hy => ?_⟩
  rw [pm_up_off (Or.inl (by omega))]
  by_cases hi : i < l.length
  · rw [List.getElem?_append_left hi] at hy
    rw [pm_up_off (Or.inr (by omega))]
    exact h.2.2 i y hy
  · have hi2 : i < (l ++ [x]).length := (List.getElem?_eq_some_iff.mp hy).1
    have hi3 : i = l.length := by simp at hi2; omega
    subst hi3
    rw [pm_up_hit]
    simpa using hy
theorem by_is.set {M : pm_M} {b i : Nat} {l : List Int32} {x : Int32} (h : by_is M b l) : by_is (pm_up M (b + 1) i x) b (l.set i x) := by
  refine ⟨by rw [pm_up_off (Or.inl (by omega))]; simpa using h.1, by simpa using h.2.1, fun j y hy => ?_⟩
  by_cases hj : j = i
  · subst hj
    have hl : j < (l.set j x).length := (List.getElem?_eq_some_iff.mp hy).1
    rw [List.getElem?_set_self (by simpa using hl)] at hy
    rw [pm_up_hit]
    exact Option.some.inj hy
  · rw [List.getElem?_set_ne (Ne.symm hj)] at hy
    rw [pm_up_off (Or.inr hj)]
    exact h.2.2 j y hy
theorem by_is.cut {M : pm_M} {b n : Nat} {l : List Int32} (h : by_is M b l) (hn : n ≤ l.length) : by_is (pm_up M b 1 (nI n)) b (l.take n) := by
  have e : (l.take n).length = n := by simp; omega
  refine ⟨by rw [pm_up_hit, e], by rw [e]; exact Nat.le_trans hn h.2.1, fun i y hy => ?_⟩
  rw [pm_up_off (Or.inl (by omega))]
  have hi : i < (l.take n).length := (List.getElem?_eq_some_iff.mp hy).1
  rw [List.getElem?_take_of_lt (by omega)] at hy
  exact h.2.2 i y hy
theorem by_is.lt {M : pm_M} {b : Nat} {l : List Int32} (h : by_is M b l) (hb : by_b b) : l.length ≤ 700 := Nat.le_trans h.2.1 (by_cl hb)
/-- at: the byte, or NONE -/
def by_at (l : List Int32) (k : Int32) : Int32 := if k < 0 then -1 else (l[k.toNatClampNeg]?).getD (-1)
theorem by_at_nI {l : List Int32} {i : Nat} (hi : i < 2 ^ 31) : by_at l (nI i) = (l[i]?).getD (-1) := by
  unfold by_at
  rw [if_neg (nI_pos hi), nI_clamp hi]
theorem w_Bytes_at {S d b : Nat} {Q : pm_Q} {M : pm_M} {l : List Int32} {k : Int32} (hb : by_b b) (hl : by_is M b l) (hq : Q (some (.inl (by_at l k))) M) : pm_PC S (d + 1) 1 [.inr (.inr b), .inl k] M Q := by
  have h700 := hl.lt hb
  refine e_Bytes_at (k_Bytes_at_0 (fun h => k_Bytes_at_21 (k_Bytes_at_22 ?_)) (fun h => k_Bytes_at_4 hb (fun h2 => k_Bytes_at_21 (k_Bytes_at_22 ?_)) (fun h2 => ?_)))
  · unfold by_at at hq
    rw [if_pos h] at hq
    exact hq
  · obtain ⟨i, hi, rfl⟩ := nI_of h
    rw [hl.1, nI_leI (by omega) hi] at h2
    rw [by_at_nI hi, List.getElem?_eq_none h2] at hq
    exact hq
  · obtain ⟨i, hi, rfl⟩ := nI_of h
    rw [hl.1, nI_leI (by omega) hi] at h2
    have hi2 : i < l.length := by omega
    have e1 : M (b + 1) i = l[i] := hl.2.2 i _ (List.getElem?_eq_getElem hi2)
    refine k_Bytes_at_12 hb ?_ (k_Bytes_at_22 ?_)
    · rw [by_rf hb, by_ln hb]
      exact vp_in_nI (Nat.lt_of_lt_of_le hi2 hl.2.1) (Nat.lt_of_le_of_lt (by_cl hb) (by decide))
    · rw [by_rf hb, nI_clamp hi, e1]
      rw [by_at_nI hi, List.getElem?_eq_getElem hi2] at hq
      exact hq
theorem w_Bytes_add {S d b : Nat} {Q : pm_Q} {M : pm_M} {l : List Int32} {x : Int32} (hb : by_b b) (hl : by_is M b l) (hc : l.length < by_c b) (hq : ∀ M', by_is M' b (l ++ [x]) → pm_ag [b, b + 1] M M' → Q (some (.inl 1)) M') : pm_PC S (d + 1) 2 [.inr (.inr b), .inl x] M Q := by
  have h700 := hl.lt hb
  have hcl := by_cl hb
  refine e_Bytes_add (k_Bytes_add_0 hb (fun h => k_Bytes_add_14 hb ?_ ?_) (fun h => ?_))
  · rw [hl.1, by_rf hb]
    exact vp_in_nI hc (by show by_c b < _; omega)
  · rw [hl.1, by_rf hb, nI_clamp (by omega), nI_1]
    exact hq _ (hl.push hc) ((pm_ag.up (by simp)).tr (pm_ag.up (by simp)))
  · exfalso
    apply h
    rw [hl.1, by_rf hb, by_ln hb]
    exact (nI_ltI (by omega) (by omega)).mpr hc
theorem w_Bytes_addF {S d b : Nat} {Q : pm_Q} {M : pm_M} {l : List Int32} {x : Int32} (hb : by_b b) (hl : by_is M b l) (hc : by_c b ≤ l.length) (hq : Q (some (.inl 0)) M) : pm_PC S (d + 1) 2 [.inr (.inr b), .inl x] M Q := by
  have h700 := hl.lt hb
  have hcl := by_cl hb
  refine e_Bytes_add (k_Bytes_add_0 hb (fun h => ?_) (fun h => k_Bytes_add_12 hq))
  exfalso
  rw [hl.1, by_rf hb, by_ln hb] at h
  have := (nI_ltI (by omega) (by omega)).mp h
  omega
theorem w_Bytes_change {S d b : Nat} {Q : pm_Q} {M : pm_M} {l : List Int32} {i : Nat} {x : Int32} (hb : by_b b) (hl : by_is M b l) (hi : i < l.length) (hq : ∀ M', by_is M' b (l.set i x) → pm_ag [b, b + 1] M M' → Q (some (.inl 1)) M') : pm_PC S (d + 1) 3 [.inr (.inr b), .inl (nI i), .inl x] M Q := by
  have h700 := hl.lt hb
  have hcl := by_cl hb
  have h1 := hl.2.1
  refine e_Bytes_change (k_Bytes_change_0 (fun h => absurd h (nI_pos (by omega))) (fun _ => k_Bytes_change_4 hb (fun h => k_Bytes_change_14 hb ?_ ?_) (fun h => ?_)))
  · rw [by_rf hb]
    exact vp_in_nI (show i < by_c b by omega) (by show by_c b < _; omega)
  · rw [by_rf hb, nI_clamp (by omega)]
    exact hq _ hl.set (pm_ag.up (by simp))
  · exfalso
    apply h
    rw [hl.1]
    exact (nI_ltI (by omega) (by omega)).mpr hi
theorem w_Bytes_changeF {S d b : Nat} {Q : pm_Q} {M : pm_M} {l : List Int32} {k x : Int32} (hb : by_b b) (hl : by_is M b l) (hi : k < 0 ∨ nI l.length ≤ k) (hq : Q (some (.inl 0)) M) : pm_PC S (d + 1) 3 [.inr (.inr b), .inl k, .inl x] M Q := by
  refine e_Bytes_change (k_Bytes_change_0 (fun h => k_Bytes_change_12 hq) (fun h => k_Bytes_change_4 hb (fun h2 => ?_) (fun h2 => k_Bytes_change_12 hq)))
  exfalso
  rw [hl.1] at h2
  rcases hi with hi | hi
  · exact h hi
  · exact Int32.not_lt.mpr hi h2
theorem w_Bytes_cut {S d b : Nat} {Q : pm_Q} {M : pm_M} {l : List Int32} {n : Nat} (hb : by_b b) (hl : by_is M b l) (hn : n ≤ l.length) (hq : ∀ M', by_is M' b (l.take n) → pm_ag [b, b + 1] M M' → Q (some (.inl 1)) M') : pm_PC S (d + 1) 4 [.inr (.inr b), .inl (nI n)] M Q := by
  have h700 := hl.lt hb
  refine e_Bytes_cut (k_Bytes_cut_0 (fun h => absurd h (nI_pos (by omega))) (fun _ => k_Bytes_cut_4 hb (fun h => k_Bytes_cut_14 hb (hq _ (hl.cut hn) (pm_ag.up (by simp)))) (fun h => ?_)))
  exfalso
  apply h
  rw [hl.1]
  exact (nI_leI (by omega) (by omega)).mpr hn
theorem w_Bytes_cutF {S d b : Nat} {Q : pm_Q} {M : pm_M} {l : List Int32} {k : Int32} (hb : by_b b) (hl : by_is M b l) (hi : k < 0 ∨ nI l.length < k) (hq : Q (some (.inl 0)) M) : pm_PC S (d + 1) 4 [.inr (.inr b), .inl k] M Q := by
  refine e_Bytes_cut (k_Bytes_cut_0 (fun h => k_Bytes_cut_12 hq) (fun h => k_Bytes_cut_4 hb (fun h2 => ?_) (fun h2 => k_Bytes_cut_12 hq)))
  exfalso
  rw [hl.1] at h2
  rcases hi with hi | hi
  · exact h hi
  · exact Int32.not_le.mpr hi h2
theorem w_Bytes_clear {S d b : Nat} {Q : pm_Q} {M : pm_M} (hb : by_b b) (hq : ∀ M', by_is M' b [] → pm_ag [b, b + 1] M M' → Q none M') : pm_PC S (d + 1) 5 [.inr (.inr b)] M Q :=
  e_Bytes_clear (k_Bytes_clear_0 hb (hq _ ⟨pm_up_hit, Nat.zero_le _, fun _ _ h => by simp at h⟩ (pm_ag.up (by simp))))
