/-! Bits: bytes put and taken bit by bit. -/
theorem nm_rem8 {t : Nat} (ht : t < 2 ^ 31) : pm_irem (nI t) 8 = nI (t % 8) := pk_rem (d := 8) ht (by decide) (by decide)
theorem nm_div8 {t : Nat} (ht : t < 2 ^ 31) : nI t / 8 = nI (t / 8) := pk_div (d := 8) ht (by decide) (by decide)
theorem pm_ag.of {ks ks' : List Nat} {M M1 M2 : pm_M} (h1 : pm_ag ks M M1) (h2 : pm_ag ks' M1 M2) (hs : ∀ k ∈ ks', k ∈ ks) : pm_ag ks M M2 := h1.tr (h2.wd hs)
/-- one bit more, t bits lie there already -/
def bi_l0 (l : List Int32) (t : Nat) : List Int32 := if t % 8 = 0 then l ++ [0] else l
def bi_put (l : List Int32) (t : Nat) (b : Int32) : List Int32 := (bi_l0 l t).set (t / 8) (((bi_l0 l t)[t / 8]?).getD (-1) ||| pm_ishl b (nI (t % 8)))
def bi_ps : List Int32 → Nat → List Int32 → List Int32
  | l, _, [] => l
  | l, t, b :: r => bi_ps (bi_put l t b) (t + 1) r
theorem bi_l0_len {l : List Int32} {t : Nat} (h : l.length = (t + 7) / 8) : (bi_l0 l t).length = (t + 8) / 8 := by
  unfold bi_l0
  split
  · simp; omega
  · omega
theorem bi_put_len {l : List Int32} {t : Nat} {b : Int32} (h : l.length = (t + 7) / 8) : (bi_put l t b).length = (t + 1 + 7) / 8 := by
  unfold bi_put
  rw [List.length_set, bi_l0_len h]
theorem bi_ps_len : ∀ (bs : List Int32) {l : List Int32} {t : Nat}, l.length = (t + 7) / 8 → (bi_ps l t bs).length = (t + bs.length + 7) / 8
  | [], _, _, h => h
  | b :: r, l, t, h => by
    show (bi_ps (bi_put l t b) (t + 1) r).length = _
    rw [bi_ps_len r (bi_put_len h)]
    simp
    omega
theorem bi_ps_app : ∀ (a b : List Int32) (l : List Int32) (t : Nat), bi_ps l t (a ++ b) = bi_ps (bi_ps l t a) (t + a.length) b
  | [], b, l, t => rfl
  | x :: r, b, l, t => by
    show bi_ps (bi_put l t x) (t + 1) (r ++ b) = bi_ps (bi_ps (bi_put l t x) (t + 1) r) _ b
    rw [bi_ps_app r b]
    congr 1
    simp
    omega
def bi_is (M : pm_M) (l : List Int32) (t : Nat) : Prop := by_is M 8 l ∧ M 7 1 = nI t ∧ l.length = (t + 7) / 8
theorem bi_is.keep {M M' : pm_M} {l : List Int32} {t : Nat} {ks : List Nat} (h : bi_is M l t) (ha : pm_ag ks M M') (h1 : 7 ∉ ks) (h2 : 8 ∉ ks) (h3 : 9 ∉ ks) : bi_is M' l t := ⟨h.1.keep ha h2 h3, by rw [ha 7 h1]; exact h.2.1, h.2.2⟩
theorem w_Bits_put {S d : Nat} {Q : pm_Q} {M : pm_M} {l : List Int32} {t : Nat} {b : Int32} (hl : bi_is M l t) (hc : t < 5600) (hq : ∀ M', bi_is M' (bi_put l t b) (t + 1) → pm_ag [7, 8, 9] M M' → Q none M') : pm_PC S (d + 2) 13 [.inr (.inr 7), .inl b] M Q := by
  have hb : by_b 8 := Or.inr (Or.inr rfl)
  have hcc : by_c 8 = 700 := rfl
  obtain ⟨h1, h2, h3⟩ := hl
  have er : pm_irem (M 7 1) 8 = nI (t % 8) := by rw [h2]; exact nm_rem8 (by omega)
  have ed : M 7 1 / 8 = nI (t / 8) := by rw [h2]; exact nm_div8 (by omega)
  have key : ∀ M1 l2, by_is M1 8 (bi_l0 l t) → pm_ag [7, 8, 9] M M1 → M1 7 1 = nI t → pm_R S (pm_PC S (d + 1)) Q 13 19 [some (.inr (.inr 7)), some (.inl b), l2] [] M1 := by
    intro M1 l2 g1 g2 g3
    have er1 : pm_irem (M1 7 1) 8 = nI (t % 8) := by rw [g3]; exact nm_rem8 (by omega)
    have ed1 : M1 7 1 / 8 = nI (t / 8) := by rw [g3]; exact nm_div8 (by omega)
    refine k_Bits_put_19 ?_
    rw [ed1]
    refine w_Bytes_at hb g1 (k_Bits_put_40 ?_)
    rw [er1, by_at_nI (by omega)]
    refine w_Bytes_change hb g1 (by rw [bi_l0_len h3]; omega) (fun M2 q1 q2 => k_Bits_put_53 ?_)
    have e7 : M2 7 1 = nI t := by rw [q2 7 (by decide)]; exact g3
    rw [e7, nI_1]
    refine hq _ ⟨q1.keep (ks := [7]) (pm_ag.up (by simp)) (by decide) (by decide), pm_up_hit, bi_put_len h3⟩ ?_
    exact (g2.of q2 (by decide)).of (pm_ag.up (ks := [7]) (by simp)) (by decide)
  refine e_Bits_put (k_Bits_put_0 (fun h => ?_) (fun h => k_Bits_put_10 ?_))
  · rw [er] at h
    have ht : ¬ t % 8 = 0 := fun z => h (by rw [z]; rfl)
    exact key M _ (by rw [bi_l0, if_neg ht]; exact h1) pm_ag.rf h2
  · rw [er] at h
    have ht : t % 8 = 0 := by
      have h4 := Classical.not_not.mp h
      exact (nI_eq (a := t % 8) (b := 0) (by omega) (by decide)).mp h4
    refine w_Bytes_add hb h1 (by rw [hcc]; omega) (fun M1 g1 g2 => k_Bits_put_18 ?_)
    exact key M1 _ (by rw [bi_l0, if_pos ht]; exact g1) (g2.wd (by decide)) (by rw [g2 7 (by decide)]; exact h2)
def bi_lo (v : Int32) (n : Nat) : List Int32 := (List.range n).map fun i => pm_ishr v (nI i) &&& 1
def bi_hi (v : Int32) : Nat → List Int32
  | 0 => []
  | n + 1 => (pm_ishr v (nI n) &&& 1) :: bi_hi v n
theorem bi_lo_len (v : Int32) (n : Nat) : (bi_lo v n).length = n := by simp [bi_lo]
theorem bi_hi_len (v : Int32) : ∀ n, (bi_hi v n).length = n
  | 0 => rfl
  | n + 1 => by simp [bi_hi, bi_hi_len v n]
def bi_lf (v : Int32) (i : Nat) : Nat → List Int32
  | 0 => []
  | n + 1 => (pm_ishr v (nI i) &&& 1) :: bi_lf v (i + 1) n
theorem bi_lf_eq (v : Int32) : ∀ n i, bi_lf v i n = (List.range' i n).map fun i => pm_ishr v (nI i) &&& 1
  | 0, _ => rfl
  | n + 1, i => by
    show _ :: bi_lf v (i + 1) n = _
    rw [bi_lf_eq v n (i + 1), List.range'_succ]
    rfl
theorem bi_lf_0 (v : Int32) (n : Nat) : bi_lf v 0 n = bi_lo v n := by rw [bi_lf_eq, ← List.range_eq_range']; rfl
theorem w_lo_loop {S d : Nat} {Q : pm_Q} {v : Int32} {n : Nat} (hn : n < 100) : ∀ (k i : Nat) (M : pm_M) (l : List Int32) (t : Nat), i + k = n → bi_is M l t → t + k ≤ 5600 → (∀ M', bi_is M' (bi_ps l t (bi_lf v i k)) (t + k) → pm_ag [7, 8, 9] M M' → Q none M') → pm_R S (pm_PC S (d + 2)) Q 14 2 [some (.inr (.inr 7)), some (.inl v), some (.inl (nI n)), some (.inl (nI i))] [] M := by
  intro k
  induction k with
  | zero =>
    intro i M l t hi hl hc hq
    exact k_Bits_putLowestFirst_2 (fun _ => k_Bits_putLowestFirst_22 (hq M hl pm_ag.rf)) (fun h => absurd (nI_le (by omega) (by omega)) h)
  | succ k ih =>
    intro i M l t hi hl hc hq
    refine k_Bits_putLowestFirst_2 (fun h => absurd h (nI_ge (by omega) (by omega))) (fun _ => k_Bits_putLowestFirst_7 (w_Bits_put hl (by omega) (fun M1 g1 g2 => k_Bits_putLowestFirst_16 ?_)))
    rw [nI_1]
    refine ih (i + 1) M1 _ (t + 1) (by omega) g1 (by omega) (fun M2 q1 q2 => hq M2 ?_ (g2.tr q2))
    rw [show t + 1 + k = t + (k + 1) by omega] at q1
    exact q1
theorem w_Bits_putLowestFirst {S d : Nat} {Q : pm_Q} {M : pm_M} {v : Int32} {n t : Nat} {l : List Int32} (hn : n < 100) (hl : bi_is M l t) (hc : t + n ≤ 5600) (hq : ∀ M', bi_is M' (bi_ps l t (bi_lo v n)) (t + n) → pm_ag [7, 8, 9] M M' → Q none M') : pm_PC S (d + 3) 14 [.inr (.inr 7), .inl v, .inl (nI n)] M Q := by
  refine e_Bits_putLowestFirst (k_Bits_putLowestFirst_0 (w_lo_loop hn n 0 M l t (by omega) hl hc ?_))
  rw [bi_lf_0]
  exact hq
theorem w_hi_loop {S d : Nat} {Q : pm_Q} {v : Int32} {x2 : Int32} : ∀ (k : Nat) (M : pm_M) (l : List Int32) (t : Nat), k < 100 → bi_is M l t → t + k ≤ 5600 → (∀ M', bi_is M' (bi_ps l t (bi_hi v k)) (t + k) → pm_ag [7, 8, 9] M M' → Q none M') → pm_R S (pm_PC S (d + 2)) Q 15 4 [some (.inr (.inr 7)), some (.inl v), some (.inl x2), some (.inl (nI k - 1))] [] M := by
  intro k
  induction k with
  | zero =>
    intro M l t hk hl hc hq
    exact k_Bits_putHighestFirst_4 (fun _ => k_Bits_putHighestFirst_23 (hq M hl pm_ag.rf)) (fun h => absurd (by decide) h)
  | succ k ih =>
    intro M l t hk hl hc hq
    rw [nI_pred]
    refine k_Bits_putHighestFirst_4 (fun h => absurd h (nI_pos (by omega))) (fun _ => k_Bits_putHighestFirst_8 (w_Bits_put hl (by omega) (fun M1 g1 g2 => k_Bits_putHighestFirst_17 ?_)))
    rw [show nI k + -1 = nI k - 1 by rw [Int32.sub_eq_add_neg]]
    refine ih M1 _ (t + 1) (by omega) g1 (by omega) (fun M2 q1 q2 => hq M2 ?_ (g2.tr q2))
    rw [show t + 1 + k = t + (k + 1) by omega] at q1
    exact q1
theorem w_Bits_putHighestFirst {S d : Nat} {Q : pm_Q} {M : pm_M} {v : Int32} {n t : Nat} {l : List Int32} (hn : n < 100) (hl : bi_is M l t) (hc : t + n ≤ 5600) (hq : ∀ M', bi_is M' (bi_ps l t (bi_hi v n)) (t + n) → pm_ag [7, 8, 9] M M' → Q none M') : pm_PC S (d + 3) 15 [.inr (.inr 7), .inl v, .inl (nI n)] M Q :=
  e_Bits_putHighestFirst (k_Bits_putHighestFirst_0 (w_hi_loop n M l t hn hl hc hq))
theorem w_Bits_startAtByte {S d : Nat} {Q : pm_Q} {M : pm_M} {k : Nat} (hq : ∀ M', M' 7 1 = nI (8 * k) → M' 7 2 = 0 → pm_ag [7] M M' → Q none M') : pm_PC S (d + 1) 12 [.inr (.inr 7), .inl (nI k)] M Q := by
  refine e_Bits_startAtByte (k_Bits_startAtByte_0 (hq _ ?_ pm_up_hit ((pm_ag.up (by simp)).tr (pm_ag.up (by simp)))))
  rw [pm_up_off (Or.inr (by decide)), pm_up_hit]
  exact pk_mul 8 k
