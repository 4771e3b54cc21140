/-! Bytes: numbers of four bytes, copies, CHECK, SUM. -/
def by_num (l : List Int32) (i : Nat) : Int32 := pm_ishl (pm_ishl (pm_ishl (pm_ishl 0 8 ||| ((l[i]?).getD (-1) &&& 255)) 8 ||| ((l[i + 1]?).getD (-1) &&& 255)) 8 ||| ((l[i + 2]?).getD (-1) &&& 255)) 8 ||| ((l[i + 3]?).getD (-1) &&& 255)
def by_be (v : Int32) : List Int32 := [pm_iushr v 24 &&& 255, pm_iushr v 16 &&& 255, pm_iushr v 8 &&& 255, pm_iushr v 0 &&& 255]
theorem by_be_len (v : Int32) : (by_be v).length = 4 := rfl
theorem w_Bytes_numberAt {S d b : Nat} {Q : pm_Q} {M : pm_M} {l : List Int32} {i : Nat} (hb : by_b b) (hl : by_is M b l) (hi : i < 1000) (hq : Q (some (.inl (by_num l i))) M) : pm_PC S (d + 2) 6 [.inr (.inr b), .inl (nI i)] M Q := by
  have e0 : nI i + 0 = nI i := by rw [show (0 : Int32) = nI 0 from rfl, nI_add]; rfl
  have e1 : nI i + (0 + 1) = nI (i + 1) := by rw [show (0 + 1 : Int32) = nI 1 from rfl, nI_add]
  have e2 : nI i + (0 + 1 + 1) = nI (i + 2) := by rw [show (0 + 1 + 1 : Int32) = nI 2 from rfl, nI_add]
  have e3 : nI i + (0 + 1 + 1 + 1) = nI (i + 3) := by rw [show (0 + 1 + 1 + 1 : Int32) = nI 3 from rfl, nI_add]
  refine e_Bytes_numberAt (k_Bytes_numberAt_0 (k_Bytes_numberAt_4 (fun h => absurd h (by decide)) (fun _ => k_Bytes_numberAt_9 hb (w_Bytes_at hb hl (k_Bytes_numberAt_20 ?_)))))
  refine k_Bytes_numberAt_4 (fun h => absurd h (by decide)) (fun _ => k_Bytes_numberAt_9 hb (w_Bytes_at hb hl (k_Bytes_numberAt_20 ?_)))
  refine k_Bytes_numberAt_4 (fun h => absurd h (by decide)) (fun _ => k_Bytes_numberAt_9 hb (w_Bytes_at hb hl (k_Bytes_numberAt_20 ?_)))
  refine k_Bytes_numberAt_4 (fun h => absurd h (by decide)) (fun _ => k_Bytes_numberAt_9 hb (w_Bytes_at hb hl (k_Bytes_numberAt_20 ?_)))
  refine k_Bytes_numberAt_4 (fun _ => k_Bytes_numberAt_32 ?_) (fun h => absurd (by decide) h)
  rw [e0, e1, e2, e3, by_at_nI (by omega), by_at_nI (by omega), by_at_nI (by omega), by_at_nI (by omega)]
  exact hq
theorem w_Bytes_addNumber {S d b : Nat} {Q : pm_Q} {M : pm_M} {l : List Int32} {v : Int32} (hb : by_b b) (hl : by_is M b l) (hc : l.length + 4 ≤ by_c b) (hq : ∀ M', by_is M' b (l ++ by_be v) → pm_ag [b, b + 1] M M' → Q none M') : pm_PC S (d + 2) 7 [.inr (.inr b), .inl v] M Q := by
  refine e_Bytes_addNumber (k_Bytes_addNumber_0 (k_Bytes_addNumber_3 (fun h => absurd h (by decide)) (fun _ => k_Bytes_addNumber_7 hb (w_Bytes_add hb hl (by omega) (fun M1 h1 a1 => k_Bytes_addNumber_18 ?_)))))
  refine k_Bytes_addNumber_3 (fun h => absurd h (by decide)) (fun _ => k_Bytes_addNumber_7 hb (w_Bytes_add hb h1 (by simp; omega) (fun M2 h2 a2 => k_Bytes_addNumber_18 ?_)))
  refine k_Bytes_addNumber_3 (fun h => absurd h (by decide)) (fun _ => k_Bytes_addNumber_7 hb (w_Bytes_add hb h2 (by simp; omega) (fun M3 h3 a3 => k_Bytes_addNumber_18 ?_)))
  refine k_Bytes_addNumber_3 (fun h => absurd h (by decide)) (fun _ => k_Bytes_addNumber_7 hb (w_Bytes_add hb h3 (by simp; omega) (fun M4 h4 a4 => k_Bytes_addNumber_18 ?_)))
  refine k_Bytes_addNumber_3 (fun _ => k_Bytes_addNumber_25 ?_) (fun h => absurd (by decide) h)
  refine hq M4 ?_ (((a1.tr a2).tr a3).tr a4)
  have e : l ++ by_be v = l ++ [pm_iushr v 24 &&& 255] ++ [pm_iushr v (24 + -8) &&& 255] ++ [pm_iushr v (24 + -8 + -8) &&& 255] ++ [pm_iushr v (24 + -8 + -8 + -8) &&& 255] := by
    rw [show (24 + -8 : Int32) = 16 from by decide, show (16 + -8 : Int32) = 8 from by decide, show (8 + -8 : Int32) = 0 from by decide]
    simp [by_be]
  rw [e]
  exact h4
def by_put4 (l : List Int32) (i : Nat) (v : Int32) : List Int32 := (((l.set i (pm_iushr v 24 &&& 255)).set (i + 1) (pm_iushr v 16 &&& 255)).set (i + 2) (pm_iushr v 8 &&& 255)).set (i + 3) (pm_iushr v 0 &&& 255)
theorem w_Bytes_changeNumber {S d b : Nat} {Q : pm_Q} {M : pm_M} {l : List Int32} {i : Nat} {v : Int32} (hb : by_b b) (hl : by_is M b l) (hi : i + 4 ≤ l.length) (hq : ∀ M', by_is M' b (by_put4 l i v) → pm_ag [b, b + 1] M M' → Q none M') : pm_PC S (d + 2) 8 [.inr (.inr b), .inl (nI i), .inl v] M Q := by
  have e0 : nI i + 0 = nI i := by rw [show (0 : Int32) = nI 0 from rfl, nI_add]; rfl
  have e1 : nI i + (0 + 1) = nI (i + 1) := by rw [show (0 + 1 : Int32) = nI 1 from rfl, nI_add]
  have e2 : nI i + (0 + 1 + 1) = nI (i + 2) := by rw [show (0 + 1 + 1 : Int32) = nI 2 from rfl, nI_add]
  have e3 : nI i + (0 + 1 + 1 + 1) = nI (i + 3) := by rw [show (0 + 1 + 1 + 1 : Int32) = nI 3 from rfl, nI_add]
  refine e_Bytes_changeNumber (k_Bytes_changeNumber_0 (k_Bytes_changeNumber_2 (fun h => absurd h (by decide)) (fun _ => k_Bytes_changeNumber_7 hb ?_)))
  rw [e0]
  refine w_Bytes_change hb hl (by omega) (fun M1 h1 a1 => k_Bytes_changeNumber_27 ?_)
  refine k_Bytes_changeNumber_2 (fun h => absurd h (by decide)) (fun _ => k_Bytes_changeNumber_7 hb ?_)
  rw [e1]
  refine w_Bytes_change hb h1 (by simp; omega) (fun M2 h2 a2 => k_Bytes_changeNumber_27 ?_)
  refine k_Bytes_changeNumber_2 (fun h => absurd h (by decide)) (fun _ => k_Bytes_changeNumber_7 hb ?_)
  rw [e2]
  refine w_Bytes_change hb h2 (by simp; omega) (fun M3 h3 a3 => k_Bytes_changeNumber_27 ?_)
  refine k_Bytes_changeNumber_2 (fun h => absurd h (by decide)) (fun _ => k_Bytes_changeNumber_7 hb ?_)
  rw [e3]
  refine w_Bytes_change hb h3 (by simp; omega) (fun M4 h4 a4 => k_Bytes_changeNumber_27 ?_)
  refine k_Bytes_changeNumber_2 (fun _ => k_Bytes_changeNumber_34 (hq M4 ?_ (((a1.tr a2).tr a3).tr a4))) (fun h => absurd (by decide) h)
  rw [show (24 - 8 * 0 : Int32) = 24 from by decide, show (24 - 8 * (0 + 1) : Int32) = 16 from by decide, show (24 - 8 * (0 + 1 + 1) : Int32) = 8 from by decide, show (24 - 8 * (0 + 1 + 1 + 1) : Int32) = 0 from by decide] at h4
  exact h4
/-- the bytes from i on, n of them -/
def by_sl (l : List Int32) (i n : Nat) : List Int32 := (l.drop i).take n
theorem by_sl_succ {l : List Int32} {i n : Nat} (h : i < l.length) : by_sl l i (n + 1) = l[i] :: by_sl l (i + 1) n := by
  unfold by_sl
  rw [List.drop_eq_getElem_cons h]
  rfl
theorem by_sl_0 {l : List Int32} {i : Nat} : by_sl l i 0 = [] := by simp [by_sl]
theorem w_addAll_loop {S d b o : Nat} {Q : pm_Q} {lo : List Int32} {t : Nat} {l2 : Option pm_V} (hb : by_b b) (ho : by_b o) (hne : o ≠ b) (ht : t ≤ lo.length) : ∀ (n i : Nat) (M : pm_M) (l : List Int32), i + n = t → by_is M o lo → by_is M b l → l.length + n ≤ by_c b → (∀ M', by_is M' b (l ++ by_sl lo i n) → pm_ag [b, b + 1] M M' → Q none M') → pm_R S (pm_PC S (d + 1)) Q 9 3 [some (.inr (.inr b)), some (.inr (.inr o)), l2, some (.inl (nI t)), some (.inl (nI i))] [] M := by
  intro n
  induction n with
  | zero =>
    intro i M l hi hlo hl hc hq
    have h700 := hlo.lt ho
    refine k_Bytes_addAll_3 (fun _ => k_Bytes_addAll_26 (hq M (by rw [by_sl_0, List.append_nil]; exact hl) pm_ag.rf)) (fun h => ?_)
    exact absurd (nI_le (by omega) (by omega)) h
  | succ n ih =>
    intro i M l hi hlo hl hc hq
    have h700 := hlo.lt ho
    have hlt : i < lo.length := by omega
    have hb1 : o ∉ [b, b + 1] := by
      simp only [List.mem_cons, List.not_mem_nil, or_false, not_or]
      refine ⟨hne, ?_⟩
      rcases hb with rfl | rfl | rfl <;> rcases ho with rfl | rfl | rfl <;> decide
    have hb2 : o + 1 ∉ [b, b + 1] := by
      simp only [List.mem_cons, List.not_mem_nil, or_false, not_or]
      refine ⟨?_, by omega⟩
      rcases hb with rfl | rfl | rfl <;> rcases ho with rfl | rfl | rfl <;> decide
    refine k_Bytes_addAll_3 (fun h => absurd h (nI_ge (by omega) (by omega))) (fun _ => k_Bytes_addAll_9 hb ho (w_Bytes_at ho hlo (k_Bytes_addAll_16 hb (w_Bytes_add hb hl (by omega) (fun M1 h1 a1 => k_Bytes_addAll_19 ?_)))))
    rw [nI_1]
    rw [by_at_nI (by omega), List.getElem?_eq_getElem hlt] at h1
    refine ih (i + 1) M1 _ (by omega) (hlo.keep a1 hb1 hb2) h1 (by simp; omega) (fun M2 h2 a2 => hq M2 ?_ (a1.tr a2))
    rw [by_sl_succ hlt]
    simpa using h2
theorem w_Bytes_addAll {S d b o : Nat} {Q : pm_Q} {M : pm_M} {l lo : List Int32} {f t : Nat} (hb : by_b b) (ho : by_b o) (hne : o ≠ b) (hlo : by_is M o lo) (hl : by_is M b l) (hft : f ≤ t) (ht : t ≤ lo.length) (hc : l.length + (t - f) ≤ by_c b) (hq : ∀ M', by_is M' b (l ++ by_sl lo f (t - f)) → pm_ag [b, b + 1] M M' → Q none M') : pm_PC S (d + 2) 9 [.inr (.inr b), .inr (.inr o), .inl (nI f), .inl (nI t)] M Q :=
  e_Bytes_addAll (k_Bytes_addAll_0 (w_addAll_loop hb ho hne ht (t - f) f M l (by omega) hlo hl hc hq))
def cr_1 (x : Int32) : Int32 := if x &&& 1 = 1 then pm_iushr x 1 ^^^ (-306674912) else pm_iushr x 1
def cr_n : Nat → Int32 → Int32
  | 0, x => x
  | n + 1, x => cr_n n (cr_1 x)
def cr_b (c x : Int32) : Int32 := cr_n 8 (c ^^^ (x &&& 255))
def cr_l (l : List Int32) : Int32 := l.foldl cr_b (-1) ^^^ (-1)
theorem w_cr_in {S : Nat} {call : pm_C} {Q : pm_Q} {M : pm_M} {l0 l1 : Option pm_V} {x2 x4 : Int32} : ∀ (n : Nat) (c : Int32), n ≤ 8 → (∀ x5, pm_R S call Q 10 60 [l0, l1, some (.inl x2), some (.inl (cr_n n c)), some (.inl x4), some (.inl x5)] [] M) → pm_R S call Q 10 27 [l0, l1, some (.inl x2), some (.inl c), some (.inl x4), some (.inl (nI (8 - n)))] [] M := by
  intro n
  induction n with
  | zero =>
    intro c _ hk
    exact k_Bytes_checkOf_27 (fun _ => hk _) (fun h => absurd (by decide) h)
  | succ n ih =>
    intro c hn hk
    have e1 : nI (8 - (n + 1)) + 1 = nI (8 - n) := by rw [nI_1]; congr 1; omega
    refine k_Bytes_checkOf_27 (fun h => absurd h (nI_ge (a := 8 - (n + 1)) (b := 8) (by omega) (by decide))) (fun _ => k_Bytes_checkOf_34 (fun h => k_Bytes_checkOf_50 (k_Bytes_checkOf_53 ?_)) (fun h => k_Bytes_checkOf_41 (k_Bytes_checkOf_53 ?_)))
    · rw [e1]
      refine ih _ (by omega) ?_
      have : cr_n (n + 1) c = cr_n n (pm_iushr c 1) := by
        show cr_n n (cr_1 c) = _
        rw [cr_1, if_neg h]
      rw [← this]
      exact hk
    · rw [e1]
      refine ih _ (by omega) ?_
      have : cr_n (n + 1) c = cr_n n (pm_iushr c 1 ^^^ (-306674912)) := by
        show cr_n n (cr_1 c) = _
        rw [cr_1, if_pos (Classical.not_not.mp h)]
      rw [← this]
      exact hk
theorem w_cr_out {S d b : Nat} {Q : pm_Q} {M : pm_M} {l : List Int32} {t : Nat} {l1 : Option pm_V} (hb : by_b b) (hl : by_is M b l) (ht : t ≤ l.length) : ∀ (n i : Nat) (c : Int32) (l5 : Option pm_V), i + n = t → Q (some (.inl ((by_sl l i n).foldl cr_b c ^^^ (-1)))) M → pm_R S (pm_PC S (d + 1)) Q 10 5 [some (.inr (.inr b)), l1, some (.inl (nI t)), some (.inl c), some (.inl (nI i)), l5] [] M := by
  have h700 := hl.lt hb
  intro n
  induction n with
  | zero =>
    intro i c l5 hi hq
    rw [by_sl_0] at hq
    exact k_Bytes_checkOf_5 (fun _ => k_Bytes_checkOf_66 hq) (fun h => absurd (nI_le (by omega) (by omega)) h)
  | succ n ih =>
    intro i c l5 hi hq
    have hlt : i < l.length := by omega
    rw [by_sl_succ hlt, List.foldl_cons] at hq
    refine k_Bytes_checkOf_5 (fun h => absurd h (nI_ge (by omega) (by omega))) (fun _ => k_Bytes_checkOf_11 hb (w_Bytes_at hb hl (k_Bytes_checkOf_18 ?_)))
    rw [by_at_nI (by omega), List.getElem?_eq_getElem hlt]
    refine w_cr_in 8 _ (Nat.le_refl _) (fun x5 => k_Bytes_checkOf_60 ?_)
    rw [nI_1]
    exact ih (i + 1) _ _ (by omega) hq
theorem w_Bytes_checkOf {S d b : Nat} {Q : pm_Q} {M : pm_M} {l : List Int32} {f t : Nat} (hb : by_b b) (hl : by_is M b l) (hft : f ≤ t) (ht : t ≤ l.length) (hq : Q (some (.inl (cr_l (by_sl l f (t - f))))) M) : pm_PC S (d + 2) 10 [.inr (.inr b), .inl (nI f), .inl (nI t)] M Q :=
  e_Bytes_checkOf (k_Bytes_checkOf_0 (w_cr_out hb hl ht (t - f) f (-1) _ (by omega) hq))
def su_s (p : Int32 × Int32) (x : Int32) : Int32 × Int32 := (pm_irem (p.1 + x) 65521, pm_irem (p.2 + pm_irem (p.1 + x) 65521) 65521)
def su_l (l : List Int32) : Int32 := pm_ishl (l.foldl su_s (1, 0)).2 16 ||| (l.foldl su_s (1, 0)).1
theorem w_sum_loop {S b : Nat} {call : pm_C} {Q : pm_Q} {M : pm_M} {l : List Int32} (hb : by_b b) (hl : by_is M b l) : ∀ (n i : Nat) (p : Int32 × Int32), i + n = l.length → Q (some (.inl (pm_ishl ((by_sl l i n).foldl su_s p).2 16 ||| ((by_sl l i n).foldl su_s p).1))) M → pm_R S call Q 11 6 [some (.inr (.inr b)), some (.inl p.1), some (.inl p.2), some (.inl (nI i))] [] M := by
  have h700 := hl.lt hb
  intro n
  induction n with
  | zero =>
    intro i p hi hq
    rw [by_sl_0] at hq
    exact k_Bytes_sum_6 hb (fun _ => k_Bytes_sum_39 hq) (fun h => absurd (by rw [hl.1]; exact nI_le (by omega) (by omega)) h)
  | succ n ih =>
    intro i p hi hq
    have hlt : i < l.length := by omega
    have e1 : M (b + 1) i = l[i] := hl.2.2 i _ (List.getElem?_eq_getElem hlt)
    rw [by_sl_succ hlt, List.foldl_cons] at hq
    refine k_Bytes_sum_6 hb (fun h => absurd (by rw [hl.1] at h; exact h) (nI_ge (by omega) (by omega))) (fun _ => k_Bytes_sum_14 hb ?_ ?_)
    · rw [by_rf hb, by_ln hb]
      exact vp_in_nI (Nat.lt_of_lt_of_le hlt hl.2.1) (Nat.lt_of_le_of_lt (by_cl hb) (by decide))
    · rw [by_rf hb, nI_clamp (by omega), e1, nI_1]
      exact ih (i + 1) (su_s p l[i]) (by omega) hq
theorem w_Bytes_sum {S d b : Nat} {Q : pm_Q} {M : pm_M} {l : List Int32} (hb : by_b b) (hl : by_is M b l) (hq : Q (some (.inl (su_l l))) M) : pm_PC S (d + 1) 11 [.inr (.inr b)] M Q := by
  refine e_Bytes_sum (k_Bytes_sum_0 hb (w_sum_loop hb hl l.length 0 (1, 0) (by omega) ?_))
  rw [show by_sl l 0 l.length = l by simp [by_sl]]
  exact hq
