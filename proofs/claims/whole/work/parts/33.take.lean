/-! Bits: taking. -/
theorem nb_or (a b : Nat) : nI a ||| nI b = nI (a ||| b) := by
  apply Int32.toBitVec_inj.mp
  show BitVec.ofNat 32 a ||| BitVec.ofNat 32 b = BitVec.ofNat 32 (a ||| b)
  exact (BitVec.ofNat_or).symm
theorem nb_sl : ∀ n, n < 32 → ((nI n &&& 31).toBitVec.smod 32).toNat = n := by decide +kernel
theorem nb_shl {v i : Nat} (hi : i < 32) (h : v * 2 ^ i < 2 ^ 32) : pm_ishl (nI v) (nI i) = nI (v * 2 ^ i) := pk_shlN _ i (nb_sl i hi) h
theorem nb_orlo {v b i : Nat} (hv : v < 2 ^ i) (hb : b < 2) (hi : i < 31) : nI v ||| pm_ishl (nI b) (nI i) = nI (v + b * 2 ^ i) := by
  have h2 : b * 2 ^ i < 2 ^ 32 := by
    have h3 : b * 2 ^ i ≤ 1 * 2 ^ i := Nat.mul_le_mul_right _ (by omega)
    have h4 : 2 ^ i ≤ 2 ^ 31 := Nat.pow_le_pow_right (by decide) (by omega)
    have h5 : (2 : Nat) ^ 31 < 2 ^ 32 := by decide
    omega
  rw [nb_shl (by omega) h2, nb_or, Nat.or_comm, Nat.mul_comm, ← Nat.two_pow_add_eq_or_of_lt hv, Nat.add_comm]
theorem nb_orhi {v b : Nat} (hv : v < 2 ^ 30) (hb : b < 2) : pm_ishl (nI v) 1 ||| nI b = nI (2 * v + b) := by
  have e : pm_ishl (nI v) 1 = nI (v * 2 ^ 1) := nb_shl (i := 1) (by decide) (by omega)
  rw [e, nb_or, Nat.mul_comm v, ← Nat.two_pow_add_eq_or_of_lt (show b < 2 ^ 1 by omega)]
/-- the bit at t; as many, lowest first, highest first -/
def rd_b (P : List Int32) (t : Nat) : Nat := (pm_ishr ((P[t / 8]?).getD (-1)) (nI (t % 8))).toBitVec.toNat % 2
def rd_lo (P : List Int32) (t : Nat) : Nat → Nat
  | 0 => 0
  | n + 1 => rd_lo P t n + rd_b P (t + n) * 2 ^ n
def rd_hi (P : List Int32) (t : Nat) : Nat → Nat
  | 0 => 0
  | n + 1 => 2 * rd_hi P t n + rd_b P (t + n)
theorem rd_b_lt (P : List Int32) (t : Nat) : rd_b P t < 2 := Nat.mod_lt _ (by decide)
theorem rd_lo_lt (P : List Int32) (t : Nat) : ∀ n, rd_lo P t n < 2 ^ n
  | 0 => Nat.zero_lt_one
  | n + 1 => by
    have h1 := rd_lo_lt P t n
    have h2 := rd_b_lt P (t + n)
    have h3 : rd_b P (t + n) * 2 ^ n ≤ 1 * 2 ^ n := Nat.mul_le_mul_right _ (by omega)
    show rd_lo P t n + _ < _
    rw [Nat.pow_succ]
    omega
theorem rd_hi_lt (P : List Int32) (t : Nat) : ∀ n, rd_hi P t n < 2 ^ n
  | 0 => Nat.zero_lt_one
  | n + 1 => by
    have h1 := rd_hi_lt P t n
    have h2 := rd_b_lt P (t + n)
    show 2 * rd_hi P t n + _ < _
    rw [Nat.pow_succ]
    omega
theorem rd_bit (P : List Int32) (t : Nat) : pm_ishr ((P[t / 8]?).getD (-1)) (nI (t % 8)) &&& 1 = nI (rd_b P t) := pk_and _ 1 (by decide)
/-- the reader: the bytes, the place, the flags -/
def rd_is (M : pm_M) (P : List Int32) (t : Nat) (o : Int32) : Prop := by_is M 8 P ∧ M 7 1 = nI t ∧ t ≤ 8 * P.length ∧ M 7 2 = o
theorem rd_is.keep {M M' : pm_M} {P : List Int32} {t : Nat} {o : Int32} {ks : List Nat} (h : rd_is M P t o) (ha : pm_ag ks M M') (h1 : 7 ∉ ks) (h2 : 8 ∉ ks) (h3 : 9 ∉ ks) : rd_is M' P t o :=
  ⟨h.1.keep ha h2 h3, by rw [ha 7 h1]; exact h.2.1, h.2.2.1, by rw [ha 7 h1]; exact h.2.2.2⟩
theorem w_Bits_take {S d : Nat} {Q : pm_Q} {M : pm_M} {P : List Int32} {t : Nat} {o : Int32} (hr : rd_is M P t o) (hy : t < 8 * P.length → ∀ M', rd_is M' P (t + 1) o → pm_ag [7] M M' → Q (some (.inl (nI (rd_b P t)))) M') (hn : t = 8 * P.length → ∀ M', rd_is M' P t 1 → pm_ag [7] M M' → Q (some (.inl (nI 0))) M') : pm_PC S (d + 1) 16 [.inr (.inr 7)] M Q := by
  obtain ⟨r1, r2, r3, r4⟩ := hr
  have h700 := r1.lt (Or.inr (Or.inr rfl))
  have ed : M 7 1 / 8 = nI (t / 8) := by rw [r2]; exact nm_div8 (by omega)
  have er : pm_irem (M 7 1) 8 = nI (t % 8) := by rw [r2]; exact nm_rem8 (by omega)
  refine e_Bits_take (k_Bits_take_0 (fun z => ?_) (fun z => k_Bits_take_19 ?_))
  · rw [ed, r1.1, nI_ltI (by omega) (by omega)] at z
    rw [ed]
    refine k_Bits_take_26 (vp_in_nI (by omega) (by decide)) ?_
    have e9 : M 9 (nI (t / 8)).toNatClampNeg = (P[t / 8]?).getD (-1) := by
      rw [nI_clamp (by omega), List.getElem?_eq_getElem z]
      exact r1.2.2 _ _ (List.getElem?_eq_getElem z)
    rw [e9, er, rd_bit, r2, nI_1]
    refine hy (by omega) _ ⟨r1.keep (pm_ag.up (ks := [7]) (by simp)) (by decide) (by decide), pm_up_hit, by omega, ?_⟩ (pm_ag.up (by simp))
    rw [pm_up_off (Or.inr (by decide))]
    exact r4
  · rw [ed, r1.1, nI_ltI (by omega) (by omega)] at z
    refine hn (by omega) _ ⟨r1.keep (pm_ag.up (ks := [7]) (by simp)) (by decide) (by decide), ?_, r3, pm_up_hit⟩ (pm_ag.up (by simp))
    rw [pm_up_off (Or.inr (by decide))]
    exact r2
theorem w_tlo_bad {S d : Nat} {Q : pm_Q} {P : List Int32} {n : Nat} (hn : n < 31) (h700 : P.length ≤ 700) : ∀ (k i : Nat) (M : pm_M) (v : Nat), i + k = n → v < 2 ^ i → rd_is M P (8 * P.length) 1 → (∀ M' v, v < 2 ^ n → rd_is M' P (8 * P.length) 1 → pm_ag [7] M M' → Q (some (.inl (nI v))) M') → pm_R S (pm_PC S (d + 1)) Q 17 4 [some (.inr (.inr 7)), some (.inl (nI n)), some (.inl (nI v)), some (.inl (nI i))] [] M := by
  intro k
  induction k with
  | zero =>
    intro i M v hi hv hr hq
    have e : i = n := by omega
    subst e
    exact k_Bits_takeLowestFirst_4 (fun _ => k_Bits_takeLowestFirst_24 (hq M v hv hr pm_ag.rf)) (fun z => absurd (nI_le (Nat.le_refl _) (by omega)) z)
  | succ k ih =>
    intro i M v hi hv hr hq
    refine k_Bits_takeLowestFirst_4 (fun z => absurd z (nI_ge (by omega) (by omega))) (fun _ => k_Bits_takeLowestFirst_9 (w_Bits_take hr (fun z => by omega) (fun _ M1 g1 g2 => k_Bits_takeLowestFirst_14 ?_)))
    rw [nb_orlo hv (by decide) (by omega), nI_1, Nat.zero_mul, Nat.add_zero]
    refine ih (i + 1) M1 v (by omega) ?_ g1 (fun M' v' a b c => hq M' v' a b (g2.tr c))
    rw [Nat.pow_succ]; omega
theorem w_tlo_loop {S d : Nat} {Q : pm_Q} {P : List Int32} {t n : Nat} {o : Int32} (hn : n < 31) (h700 : P.length ≤ 700) : ∀ (k i : Nat) (M : pm_M), i + k = n → rd_is M P (t + i) o → (t + n ≤ 8 * P.length → ∀ M', rd_is M' P (t + n) o → pm_ag [7] M M' → Q (some (.inl (nI (rd_lo P t n)))) M') → (8 * P.length < t + n → ∀ M' v, v < 2 ^ n → rd_is M' P (8 * P.length) 1 → pm_ag [7] M M' → Q (some (.inl (nI v))) M') → pm_R S (pm_PC S (d + 1)) Q 17 4 [some (.inr (.inr 7)), some (.inl (nI n)), some (.inl (nI (rd_lo P t i))), some (.inl (nI i))] [] M := by
  intro k
  induction k with
  | zero =>
    intro i M hi hr hy hq
    have e : i = n := by omega
    subst e
    exact k_Bits_takeLowestFirst_4 (fun _ => k_Bits_takeLowestFirst_24 (hy hr.2.2.1 M hr pm_ag.rf)) (fun z => absurd (nI_le (Nat.le_refl _) (by omega)) z)
  | succ k ih =>
    intro i M hi hr hy hq
    have hlt := rd_lo_lt P t i
    refine k_Bits_takeLowestFirst_4 (fun z => absurd z (nI_ge (by omega) (by omega))) (fun _ => k_Bits_takeLowestFirst_9 (w_Bits_take hr (fun z M1 g1 g2 => k_Bits_takeLowestFirst_14 ?_) (fun z M1 g1 g2 => k_Bits_takeLowestFirst_14 ?_)))
    · rw [nb_orlo hlt (rd_b_lt _ _) (by omega), nI_1]
      exact ih (i + 1) M1 (by omega) g1 (fun a M' b c => hy a M' b (g2.tr c)) (fun a M' v b c e => hq a M' v b c (g2.tr e))
    · rw [nb_orlo hlt (by decide) (by omega), nI_1, Nat.zero_mul, Nat.add_zero]
      rw [z] at g1
      refine w_tlo_bad hn h700 k (i + 1) M1 _ (by omega) ?_ g1 (fun M' v a b c => hq (by omega) M' v a b (g2.tr c))
      rw [Nat.pow_succ]; omega
theorem w_Bits_takeLowestFirst {S d : Nat} {Q : pm_Q} {M : pm_M} {P : List Int32} {t n : Nat} {o : Int32} (hn : n < 31) (hr : rd_is M P t o) (hy : t + n ≤ 8 * P.length → ∀ M', rd_is M' P (t + n) o → pm_ag [7] M M' → Q (some (.inl (nI (rd_lo P t n)))) M') (hq : 8 * P.length < t + n → ∀ M' v, v < 2 ^ n → rd_is M' P (8 * P.length) 1 → pm_ag [7] M M' → Q (some (.inl (nI v))) M') : pm_PC S (d + 2) 17 [.inr (.inr 7), .inl (nI n)] M Q :=
  e_Bits_takeLowestFirst (k_Bits_takeLowestFirst_0 (w_tlo_loop hn (hr.1.lt (Or.inr (Or.inr rfl))) n 0 M (by omega) hr hy hq))
theorem w_thi_bad {S d : Nat} {Q : pm_Q} {P : List Int32} {n : Nat} (hn : n < 30) (h700 : P.length ≤ 700) : ∀ (k i : Nat) (M : pm_M) (v : Nat), i + k = n → v < 2 ^ i → rd_is M P (8 * P.length) 1 → (∀ M' v, v < 2 ^ n → rd_is M' P (8 * P.length) 1 → pm_ag [7] M M' → Q (some (.inl (nI v))) M') → pm_R S (pm_PC S (d + 1)) Q 18 4 [some (.inr (.inr 7)), some (.inl (nI n)), some (.inl (nI v)), some (.inl (nI i))] [] M := by
  intro k
  induction k with
  | zero =>
    intro i M v hi hv hr hq
    have e : i = n := by omega
    subst e
    exact k_Bits_takeHighestFirst_4 (fun _ => k_Bits_takeHighestFirst_24 (hq M v hv hr pm_ag.rf)) (fun z => absurd (nI_le (Nat.le_refl _) (by omega)) z)
  | succ k ih =>
    intro i M v hi hv hr hq
    have hv30 : v < 2 ^ 30 := Nat.lt_of_lt_of_le hv (Nat.pow_le_pow_right (by decide) (by omega))
    refine k_Bits_takeHighestFirst_4 (fun z => absurd z (nI_ge (by omega) (by omega))) (fun _ => k_Bits_takeHighestFirst_9 (w_Bits_take hr (fun z => by omega) (fun _ M1 g1 g2 => k_Bits_takeHighestFirst_16 ?_)))
    rw [nb_orhi hv30 (by decide), nI_1, Nat.add_zero]
    refine ih (i + 1) M1 _ (by omega) ?_ g1 (fun M' v' a b c => hq M' v' a b (g2.tr c))
    rw [Nat.pow_succ]; omega
theorem w_thi_loop {S d : Nat} {Q : pm_Q} {P : List Int32} {t n : Nat} {o : Int32} (hn : n < 30) (h700 : P.length ≤ 700) : ∀ (k i : Nat) (M : pm_M), i + k = n → rd_is M P (t + i) o → (t + n ≤ 8 * P.length → ∀ M', rd_is M' P (t + n) o → pm_ag [7] M M' → Q (some (.inl (nI (rd_hi P t n)))) M') → (8 * P.length < t + n → ∀ M' v, v < 2 ^ n → rd_is M' P (8 * P.length) 1 → pm_ag [7] M M' → Q (some (.inl (nI v))) M') → pm_R S (pm_PC S (d + 1)) Q 18 4 [some (.inr (.inr 7)), some (.inl (nI n)), some (.inl (nI (rd_hi P t i))), some (.inl (nI i))] [] M := by
  intro k
  induction k with
  | zero =>
    intro i M hi hr hy hq
    have e : i = n := by omega
    subst e
    exact k_Bits_takeHighestFirst_4 (fun _ => k_Bits_takeHighestFirst_24 (hy hr.2.2.1 M hr pm_ag.rf)) (fun z => absurd (nI_le (Nat.le_refl _) (by omega)) z)
  | succ k ih =>
    intro i M hi hr hy hq
    have hlt := rd_hi_lt P t i
    have hv30 : rd_hi P t i < 2 ^ 30 := Nat.lt_of_lt_of_le hlt (Nat.pow_le_pow_right (by decide) (by omega))
    refine k_Bits_takeHighestFirst_4 (fun z => absurd z (nI_ge (by omega) (by omega))) (fun _ => k_Bits_takeHighestFirst_9 (w_Bits_take hr (fun z M1 g1 g2 => k_Bits_takeHighestFirst_16 ?_) (fun z M1 g1 g2 => k_Bits_takeHighestFirst_16 ?_)))
    · rw [nb_orhi hv30 (rd_b_lt _ _), nI_1]
      exact ih (i + 1) M1 (by omega) g1 (fun a M' b c => hy a M' b (g2.tr c)) (fun a M' v b c e => hq a M' v b c (g2.tr e))
    · rw [nb_orhi hv30 (by decide), nI_1, Nat.add_zero]
      rw [z] at g1
      refine w_thi_bad hn h700 k (i + 1) M1 _ (by omega) ?_ g1 (fun M' v a b c => hq (by omega) M' v a b (g2.tr c))
      rw [Nat.pow_succ]; omega
theorem w_Bits_takeHighestFirst {S d : Nat} {Q : pm_Q} {M : pm_M} {P : List Int32} {t n : Nat} {o : Int32} (hn : n < 30) (hr : rd_is M P t o) (hy : t + n ≤ 8 * P.length → ∀ M', rd_is M' P (t + n) o → pm_ag [7] M M' → Q (some (.inl (nI (rd_hi P t n)))) M') (hq : 8 * P.length < t + n → ∀ M' v, v < 2 ^ n → rd_is M' P (8 * P.length) 1 → pm_ag [7] M M' → Q (some (.inl (nI v))) M') : pm_PC S (d + 2) 18 [.inr (.inr 7), .inl (nI n)] M Q :=
  e_Bits_takeHighestFirst (k_Bits_takeHighestFirst_0 (w_thi_loop hn (hr.1.lt (Or.inr (Or.inr rfl))) n 0 M (by omega) hr hy hq))
theorem w_Bits_passOverByte {S d : Nat} {Q : pm_Q} {M : pm_M} {P : List Int32} {t : Nat} {o : Int32} (hr : rd_is M P t o) (hq : ∀ M', rd_is M' P ((t + 7) / 8 * 8) o → pm_ag [7] M M' → Q none M') : pm_PC S (d + 1) 19 [.inr (.inr 7)] M Q := by
  obtain ⟨r1, r2, r3, r4⟩ := hr
  have h700 := r1.lt (Or.inr (Or.inr rfl))
  refine e_Bits_passOverByte (k_Bits_passOverByte_0 ?_)
  rw [r2, show (7 : Int32) = nI 7 from rfl, nI_add, nm_div8 (by omega), show (8 : Int32) = nI 8 from rfl, pk_mul]
  exact hq _ ⟨r1.keep (pm_ag.up (ks := [7]) (by simp)) (by decide) (by decide), pm_up_hit, by omega, by rw [pm_up_off (Or.inr (by decide))]; exact r4⟩ (pm_ag.up (by simp))
