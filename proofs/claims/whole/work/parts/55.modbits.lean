/-! SevenPassImageModel: bits, codes, copies are put. -/
/-- the file holds F0, then the bytes l with t bits put -/
def mb_is (M : pm_M) (F0 l : List Int32) (t : Nat) : Prop := mo_f M (F0 ++ l) ∧ M 19 15 = nI (t % 8) ∧ l.length = (t + 7) / 8 ∧ (¬ t % 8 = 0 → ∃ v : Nat, v < 2 ^ (t % 8) ∧ l[t / 8]? = some (nI v))
theorem mo_cv {N N' : pm_M} (h1 : ∀ j, j ≠ 6 → N' 19 j = N 19 j) (h2 : pm_ag [19, 22] N N') : mo_ag [6] [22] N N' := ⟨h2, fun j hj => h1 j (fun e => hj (by rw [e]; simp))⟩
section MOD
variable {S d : Nat} {Q : pm_Q}
theorem w_bit_end {M : pm_M} {F0 l : List Int32} {t v o : Nat} {b : Int32} (hF : mo_f M (F0 ++ bi_l0 l t)) (h15 : M 19 15 = nI (t % 8)) (hl : l.length = (t + 7) / 8) (hv : v < 2 ^ (t % 8)) (hlv : (bi_l0 l t)[t / 8]? = some (nI v)) (ho : o < 2) (hb : b = nI o) (hq : ∀ M', mb_is M' F0 (bi_put l t b) (t + 1) → mo_ag [6, 15] [22] M M' → Q none M') : pm_R S (pm_PC S d) Q 120 12 [some (.inr (.inr 19)), some (.inl b)] [] M := by
  have h700 := hF.2.1
  have hl0 := bi_l0_len hl
  have ht8 : t % 8 < 8 := Nat.mod_lt _ (by decide)
  rw [List.length_append, hl0] at h700
  have e6 : M 19 6 - 1 = nI (F0.length + t / 8) := by
    rw [hF.1, List.length_append, hl0, show (1 : Int32) = nI 1 from rfl, pk_sub (by omega)]
    congr 1
    omega
  have hc : (M 19 6 - 1).toNatClampNeg = F0.length + t / 8 := by rw [e6]; exact nI_clamp (by omega)
  have hin : vp_in (M 19 6 - 1) 700 := by rw [e6]; exact vp_in_nI (by omega) (by decide)
  have hget : M 22 (F0.length + t / 8) = nI v := by
    refine hF.2.2 _ _ ?_
    rw [List.getElem?_append_right (by omega), show F0.length + t / 8 - F0.length = t / 8 by omega]
    exact hlv
  have hv7 : v < 2 ^ 7 := Nat.lt_of_lt_of_le hv (Nat.pow_le_pow_right (by decide) (by omega))
  have eadd : nI v + pm_ishl b (nI (t % 8)) = nI (v + o * 2 ^ (t % 8)) := by
    have h7 : 2 ^ (t % 8) ≤ 2 ^ 7 := Nat.pow_le_pow_right (by decide) (by omega)
    have h8 : o * 2 ^ (t % 8) ≤ 1 * 2 ^ 7 := Nat.mul_le_mul (by omega) h7
    rw [hb, nb_shl (by omega) (by omega), nI_add]
  have eor : nI v ||| pm_ishl b (nI (t % 8)) = nI (v + o * 2 ^ (t % 8)) := by rw [hb]; exact nb_orlo hv ho (by omega)
  have eput : bi_put l t b = (bi_l0 l t).set (t / 8) (nI (v + o * 2 ^ (t % 8))) := by
    unfold bi_put
    rw [hlv, Option.getD_some, eor]
  have hF2 : mo_f (pm_up M 22 (F0.length + t / 8) (nI (v + o * 2 ^ (t % 8)))) (F0 ++ bi_put l t b) := by
    have := hF.set (i := F0.length + t / 8) (v := nI (v + o * 2 ^ (t % 8)))
    rw [List.set_append_right _ _ (by omega), show F0.length + t / 8 - F0.length = t / 8 by omega] at this
    rw [eput]
    exact this
  have a1 : mo_ag [6, 15] [22] M (pm_up M 22 (F0.length + t / 8) (nI (v + o * 2 ^ (t % 8)))) := mo_ag.p (by decide) (by decide)
  have fin : ∀ y, y = nI ((t + 1) % 8) → ∀ x1, pm_R S (pm_PC S d) Q 120 61 [some (.inr (.inr 19)), x1] [.inl y, .inr (.inr 19)] (pm_up M 22 (F0.length + t / 8) (nI (v + o * 2 ^ (t % 8)))) := by
    rintro y rfl x1
    refine k_Mod_bit_61 (hq _ ⟨hF2.keep (js := [15]) (ks := []) (mo_ag.f (by decide)) (by decide) (by decide), pm_up_hit, bi_put_len hl, fun hn => ⟨v + o * 2 ^ (t % 8), ?_, ?_⟩⟩ (a1.tr (mo_ag.f (by decide))))
    · have e1 : (t + 1) % 8 = t % 8 + 1 := by omega
      have e2 : o * 2 ^ (t % 8) ≤ 1 * 2 ^ (t % 8) := Nat.mul_le_mul_right _ (by omega)
      rw [e1, Nat.pow_succ]
      omega
    · rw [eput, show (t + 1) / 8 = t / 8 by omega, List.getElem?_set_self (by rw [hl0]; omega)]
  refine k_Mod_bit_12 hin hin (fun z => ?_) (fun z => ?_)
  · rw [hc, h15, hget, eadd]
    refine k_Mod_bit_55 (fin _ ?_ _)
    rw [pm_up_off (Or.inl (by decide)), h15, nI_1]
    have : ¬ t % 8 = 7 := fun e => z (by rw [h15, e]; rfl)
    congr 1
    omega
  · rw [hc, h15, hget, eadd]
    refine k_Mod_bit_51 (fin _ ?_ _)
    have z := Classical.not_not.mp z
    rw [h15] at z
    have : t % 8 = 7 := (nI_eq (b := 7) (by omega) (by decide)).mp z
    rw [show (t + 1) % 8 = 0 by omega]
    rfl
theorem w_Mod_bit {M : pm_M} {F0 l : List Int32} {t o : Nat} {b : Int32} (hl : mb_is M F0 l t) (hc : F0.length + (t + 8) / 8 ≤ 700) (ho : o < 2) (hb : b = nI o) (hq : ∀ M', mb_is M' F0 (bi_put l t b) (t + 1) → mo_ag [6, 15] [22] M M' → Q none M') : pm_PC S (d + 2) 120 [.inr (.inr 19), .inl b] M Q := by
  obtain ⟨f1, f2, f3, f4⟩ := hl
  by_cases h0 : t % 8 = 0
  · have e0 : bi_l0 l t = l ++ [0] := by unfold bi_l0; rw [if_pos h0]
    have hlen : l.length = t / 8 := by omega
    refine e_Mod_bit (k_Mod_bit_0 (fun z => absurd (by rw [f2, h0]; rfl) z) (fun _ => k_Mod_bit_7 (w_Mod_put f1 (by rw [List.length_append]; omega) (fun M1 g1 g2 g3 => ?_))))
    have a1 : mo_ag [6, 15] [22] M M1 := (mo_cv g2 g3).wd (by decide) (by decide)
    have g1' : mo_f M1 (F0 ++ bi_l0 l t) := by
      rw [e0, ← List.append_assoc]
      exact g1
    refine w_bit_end (v := 0) g1' (by rw [g2 15 (by decide)]; exact f2) f3 (Nat.two_pow_pos _) ?_ ho hb (fun M' q1 q2 => hq M' q1 (a1.tr q2))
    rw [e0, List.getElem?_append_right (by omega), show t / 8 - l.length = 0 by omega]
    rfl
  · obtain ⟨v, hv, hlv⟩ := f4 h0
    have e0 : bi_l0 l t = l := by unfold bi_l0; rw [if_neg h0]
    refine e_Mod_bit (k_Mod_bit_0 (fun _ => ?_) (fun z => absurd (fun e => ?_) z))
    · exact w_bit_end (by rw [e0]; exact f1) f2 f3 hv (by rw [e0]; exact hlv) ho hb hq
    · rw [f2] at e
      exact h0 ((nI_eq (b := 0) (by omega) (by decide)).mp e)
theorem w_mbits_lo {F0 : List Int32} {v : Int32} {n : Nat} (hn : n < 100) : ∀ (k i : Nat) (M : pm_M) (l : List Int32) (t : Nat), i + k = n → mb_is M F0 l t → F0.length + (t + k + 7) / 8 ≤ 700 → (∀ M', mb_is M' F0 (bi_ps l t (bi_lf v i k)) (t + k) → mo_ag [6, 15] [22] M M' → Q none M') → pm_R S (pm_PC S (d + 2)) Q 121 3 [some (.inr (.inr 19)), some (.inl v), some (.inl (nI n)), some (.inl 1), some (.inl (nI i))] [] M := by
  intro k
  induction k with
  | zero =>
    intro i M l t hi hl hc hq
    exact k_Mod_bits_3 (fun _ => k_Mod_bits_38 (hq M hl mo_ag.rf)) (fun z => absurd (nI_le (by omega) (by omega)) z)
  | succ k ih =>
    intro i M l t hi hl hc hq
    obtain ⟨o, ho, eo⟩ := pk_andE (pm_ishr v (nI i)) (m := 1) 1 (by decide)
    refine k_Mod_bits_3 (fun z => absurd z (nI_ge (by omega) (by omega))) (fun _ => k_Mod_bits_9 (fun z => absurd z (by decide)) (fun _ => k_Mod_bits_15 (k_Mod_bits_26 (w_Mod_bit hl (by omega) (show o < 2 by omega) eo (fun M1 g1 a1 => k_Mod_bits_32 ?_)))))
    rw [nI_1]
    refine ih (i + 1) M1 _ _ (by omega) g1 (by omega) (fun M' q1 q2 => hq M' ?_ (a1.tr q2))
    rw [show t + (k + 1) = t + 1 + k by omega]
    exact q1
theorem w_Mod_bits_lo {M : pm_M} {F0 l : List Int32} {v : Int32} {n t : Nat} (hn : n < 100) (hl : mb_is M F0 l t) (hc : F0.length + (t + n + 7) / 8 ≤ 700) (hq : ∀ M', mb_is M' F0 (bi_ps l t (bi_lo v n)) (t + n) → mo_ag [6, 15] [22] M M' → Q none M') : pm_PC S (d + 3) 121 [.inr (.inr 19), .inl v, .inl (nI n), .inl 1] M Q := by
  refine e_Mod_bits (k_Mod_bits_0 (w_mbits_lo hn n 0 M l t (by omega) hl hc (fun M' q1 q2 => hq M' ?_ q2)))
  have e : bi_lf v 0 n = bi_lo v n := by
    rw [bi_lf_eq]
    unfold bi_lo
    rw [List.range_eq_range']
  rw [e] at q1
  exact q1
theorem w_mbits_hi {F0 : List Int32} {v : Int32} {n : Nat} (hn : n < 100) : ∀ (k i : Nat) (M : pm_M) (l : List Int32) (t : Nat), i + k = n → mb_is M F0 l t → F0.length + (t + k + 7) / 8 ≤ 700 → (∀ M', mb_is M' F0 (bi_ps l t (bi_hi v k)) (t + k) → mo_ag [6, 15] [22] M M' → Q none M') → pm_R S (pm_PC S (d + 2)) Q 121 3 [some (.inr (.inr 19)), some (.inl v), some (.inl (nI n)), some (.inl 0), some (.inl (nI i))] [] M := by
  intro k
  induction k with
  | zero =>
    intro i M l t hi hl hc hq
    exact k_Mod_bits_3 (fun _ => k_Mod_bits_38 (hq M hl mo_ag.rf)) (fun z => absurd (nI_le (by omega) (by omega)) z)
  | succ k ih =>
    intro i M l t hi hl hc hq
    obtain ⟨o, ho, eo⟩ := pk_andE (pm_ishr v (nI k)) (m := 1) 1 (by decide)
    refine k_Mod_bits_3 (fun z => absurd z (nI_ge (by omega) (by omega))) (fun _ => k_Mod_bits_9 (fun _ => k_Mod_bits_20 (k_Mod_bits_26 ?_)) (fun z => absurd rfl z))
    rw [show (1 : Int32) = nI 1 from rfl, pk_sub (by omega), pk_sub (by omega), show n - 1 - i = k by omega]
    refine w_Mod_bit hl (by omega) (show o < 2 by omega) eo (fun M1 g1 a1 => k_Mod_bits_32 ?_)
    rw [nI_1]
    refine ih (i + 1) M1 _ _ (by omega) g1 (by omega) (fun M' q1 q2 => hq M' ?_ (a1.tr q2))
    rw [show t + (k + 1) = t + 1 + k by omega]
    exact q1
theorem w_Mod_bits_hi {M : pm_M} {F0 l : List Int32} {v : Int32} {n t : Nat} (hn : n < 100) (hl : mb_is M F0 l t) (hc : F0.length + (t + n + 7) / 8 ≤ 700) (hq : ∀ M', mb_is M' F0 (bi_ps l t (bi_hi v n)) (t + n) → mo_ag [6, 15] [22] M M' → Q none M') : pm_PC S (d + 3) 121 [.inr (.inr 19), .inl v, .inl (nI n), .inl 0] M Q :=
  e_Mod_bits (k_Mod_bits_0 (w_mbits_hi hn n 0 M l t (by omega) hl hc hq))
theorem w_Mod_code {M : pm_M} {F0 l : List Int32} {c : Int32} {t : Nat} (hl : mb_is M F0 l t) (hc : F0.length + (t + (pk_cb c).length + 7) / 8 ≤ 700) (hq : ∀ M', mb_is M' F0 (bi_ps l t (pk_cb c)) (t + (pk_cb c).length) → mo_ag [6, 15] [22] M M' → Q none M') : pm_PC S (d + 4) 122 [.inr (.inr 19), .inl c] M Q := by
  unfold pk_cb at hc hq
  refine e_Mod_code (k_Mod_code_0 (fun z1 => k_Mod_code_21 (fun z2 => k_Mod_code_43 (fun z3 => k_Mod_code_65 ?_) (fun z3 => k_Mod_code_50 ?_)) (fun z2 => k_Mod_code_28 ?_)) (fun z1 => k_Mod_code_7 ?_))
  · rw [if_neg (Int32.not_lt.mpr z1), if_neg (Int32.not_lt.mpr z2), if_neg (Int32.not_lt.mpr z3), bi_hi_len] at hc hq
    exact w_Mod_bits_hi (n := 8) (by decide) hl hc (fun M' q1 q2 => k_Mod_code_76 (hq M' q1 q2))
  · rw [if_neg (Int32.not_lt.mpr z1), if_neg (Int32.not_lt.mpr z2), if_pos (Int32.not_le.mp z3), bi_hi_len] at hc hq
    exact w_Mod_bits_hi (n := 7) (by decide) hl hc (fun M' q1 q2 => k_Mod_code_62 (k_Mod_code_76 (hq M' q1 q2)))
  · rw [if_neg (Int32.not_lt.mpr z1), if_pos (Int32.not_le.mp z2), bi_hi_len] at hc hq
    exact w_Mod_bits_hi (n := 9) (by decide) hl hc (fun M' q1 q2 => k_Mod_code_40 (k_Mod_code_76 (hq M' q1 q2)))
  · rw [if_pos (Int32.not_le.mp z1), bi_hi_len] at hc hq
    exact w_Mod_bits_hi (n := 8) (by decide) hl hc (fun M' q1 q2 => k_Mod_code_18 (k_Mod_code_76 (hq M' q1 q2)))
theorem w_Mod_extraOfLength {M : pm_M} {x : Int32} (hq : Q (some (.inl (cd_lb x))) M) : pm_PC S (d + 1) 123 [.inl x] M Q := by
  refine e_Mod_extraOfLength (k_Mod_extraOfLength_0 (fun h => k_Mod_extraOfLength_14 (k_Mod_extraOfLength_25 ?_)) (fun h => k_Mod_extraOfLength_7 (fun h2 => k_Mod_extraOfLength_18 (k_Mod_extraOfLength_25 ?_)) (fun h2 => k_Mod_extraOfLength_14 (k_Mod_extraOfLength_25 ?_))))
  · rw [cd_lb, if_pos h] at hq; exact hq
  · rw [cd_lb, if_neg h, if_neg h2] at hq; exact hq
  · rw [cd_lb, if_neg h, if_pos (Classical.not_not.mp h2)] at hq; exact hq
theorem w_Mod_baseOfLength {M : pm_M} {x : Int32} (hq : Q (some (.inl (cd_ll x))) M) : pm_PC S (d + 1) 124 [.inl x] M Q := by
  unfold cd_ll cd_lb at hq
  refine e_Mod_baseOfLength (k_Mod_baseOfLength_0 (fun h => k_Mod_baseOfLength_13 (fun h2 => k_Mod_baseOfLength_28 (k_Mod_baseOfLength_47 ?_)) (fun h2 => k_Mod_baseOfLength_20 (k_Mod_baseOfLength_47 ?_))) (fun h => k_Mod_baseOfLength_7 (k_Mod_baseOfLength_47 ?_)))
  · rw [if_neg (Int32.not_lt.mpr h2), if_neg h, if_neg (Int32.not_lt.mpr h2), if_neg h] at hq; exact hq
  · rw [if_pos (Int32.not_le.mp h2)] at hq; exact hq
  · have h := Classical.not_not.mp h
    subst h
    exact hq
theorem w_Mod_extraOfDistance {M : pm_M} {x : Int32} (hq : Q (some (.inl (cd_db x))) M) : pm_PC S (d + 1) 125 [.inl x] M Q := by
  refine e_Mod_extraOfDistance (k_Mod_extraOfDistance_0 (fun h => k_Mod_extraOfDistance_9 (k_Mod_extraOfDistance_14 ?_)) (fun h => k_Mod_extraOfDistance_5 (k_Mod_extraOfDistance_14 ?_)))
  · rw [cd_db, if_neg (Int32.not_lt.mpr h)] at hq; exact hq
  · rw [cd_db, if_pos (Int32.not_le.mp h)] at hq; exact hq
theorem w_Mod_baseOfDistance {M : pm_M} {x : Int32} (hq : Q (some (.inl (cd_ld x))) M) : pm_PC S (d + 1) 126 [.inl x] M Q := by
  unfold cd_ld cd_db at hq
  refine e_Mod_baseOfDistance (k_Mod_baseOfDistance_0 (fun h => k_Mod_baseOfDistance_11 (k_Mod_baseOfDistance_24 ?_)) (fun h => k_Mod_baseOfDistance_5 (k_Mod_baseOfDistance_24 ?_)))
  · rw [if_neg (Int32.not_lt.mpr h), if_neg (Int32.not_lt.mpr h)] at hq; exact hq
  · rw [if_pos (Int32.not_le.mp h)] at hq; exact hq
def mo_cN (n : Nat) : Nat := (cd_co (nI n)).toNatClampNeg
theorem mo_cN_ok : ∀ n, n < 258 → 3 ≤ n → cd_co (nI n) = nI (mo_cN n) ∧ 257 ≤ mo_cN n ∧ mo_cN n ≤ 284 ∧ cd_ll (nI (mo_cN n)) ≤ nI n ∧ ∀ j, j < 28 → mo_cN n < 257 + j → ¬ cd_ll (nI (257 + j)) ≤ nI n := by decide +kernel
def mo_tN (n : Nat) : Nat := (cd_no (nI n)).toNatClampNeg
theorem mo_tN_ok : ∀ n, n < 301 → 1 ≤ n → cd_no (nI n) = nI (mo_tN n) ∧ mo_tN n ≤ 29 ∧ cd_ld (nI (mo_tN n)) ≤ nI n ∧ ∀ j, j < 30 → mo_tN n < j → ¬ cd_ld (nI j) ≤ nI n := by decide +kernel
theorem w_cp_len {M : pm_M} {n : Nat} {x2 : Int32} {l4 : Option pm_V} (hn : 3 ≤ n ∧ n < 258) (hq : pm_R S (pm_PC S (d + 1)) Q 127 32 [some (.inr (.inr 19)), some (.inl (nI n)), some (.inl x2), some (.inl (cd_co (nI n))), l4] [] M) : ∀ (k c : Nat), mo_cN n + k = c → c ≤ 284 → pm_R S (pm_PC S (d + 1)) Q 127 4 [some (.inr (.inr 19)), some (.inl (nI n)), some (.inl x2), some (.inl (nI c)), l4] [] M := by
  obtain ⟨o1, o2, o3, o4, o5⟩ := mo_cN_ok n hn.2 hn.1
  have ne : ∀ c, c ≤ 284 → ¬ nI c = 285 := fun c hc e => by
    have := (nI_eq (a := c) (b := 285) (by omega) (by decide)).mp e
    omega
  intro k
  induction k with
  | zero =>
    intro c hc hc2
    have e : mo_cN n = c := by omega
    subst e
    rw [o1] at hq
    refine k_Mod_copy_4 (fun z => absurd z (nI_ge (b := 258) (by omega) (by decide))) (fun _ => k_Mod_copy_11 (fun z => absurd z (ne _ hc2)) (fun _ => k_Mod_copy_18 (w_Mod_baseOfLength (k_Mod_copy_22 (fun _ => ?_) (fun z => absurd o4 z)))))
    exact hq
  | succ k ih =>
    intro c hc hc2
    have hb : ¬ cd_ll (nI c) ≤ nI n := by
      have := o5 (c - 257) (by omega) (by omega)
      rw [show 257 + (c - 257) = c by omega] at this
      exact this
    refine k_Mod_copy_4 (fun z => absurd z (nI_ge (b := 258) (by omega) (by decide))) (fun _ => k_Mod_copy_11 (fun z => absurd z (ne _ hc2)) (fun _ => k_Mod_copy_18 (w_Mod_baseOfLength (k_Mod_copy_22 (fun z => absurd z hb) (fun _ => k_Mod_copy_26 ?_)))))
    have e : nI c + (-1) = nI (c - 1) := by
      have := pk_m1 (c - 1)
      rw [show c - 1 + 1 = c by omega] at this
      exact this
    rw [e]
    exact ih (c - 1) (by omega) (by omega)
theorem w_cp_dist {M : pm_M} {n : Nat} {x1 : Option pm_V} {x3 : Int32} (hn : 1 ≤ n ∧ n < 301) (hq : pm_R S (pm_PC S (d + 1)) Q 127 71 [some (.inr (.inr 19)), x1, some (.inl (nI n)), some (.inl x3), some (.inl (nI (mo_tN n)))] [] M) : ∀ (k c : Nat), mo_tN n + k = c → c ≤ 29 → pm_R S (pm_PC S (d + 1)) Q 127 56 [some (.inr (.inr 19)), x1, some (.inl (nI n)), some (.inl x3), some (.inl (nI c))] [] M := by
  obtain ⟨o1, o2, o3, o4⟩ := mo_tN_ok n hn.2 hn.1
  intro k
  induction k with
  | zero =>
    intro c hc hc2
    have e : mo_tN n = c := by omega
    subst e
    exact k_Mod_copy_56 (w_Mod_baseOfDistance (k_Mod_copy_61 (fun _ => hq) (fun z => absurd o3 z)))
  | succ k ih =>
    intro c hc hc2
    refine k_Mod_copy_56 (w_Mod_baseOfDistance (k_Mod_copy_61 (fun z => absurd z (o4 c (by omega) (by omega))) (fun _ => k_Mod_copy_65 ?_)))
    have e : nI c + (-1) = nI (c - 1) := by
      have := pk_m1 (c - 1)
      rw [show c - 1 + 1 = c by omega] at this
      exact this
    rw [e]
    exact ih (c - 1) (by omega) (by omega)
theorem w_Mod_copy {M : pm_M} {F0 l : List Int32} {n m t : Nat} (hn : 3 ≤ n ∧ n < 259) (hm : 1 ≤ m ∧ m < 301) (hl : mb_is M F0 l t) (hc : F0.length + (t + (pk_cp n m).length + 7) / 8 ≤ 700) (hq : ∀ M', mb_is M' F0 (bi_ps l t (pk_cp n m)) (t + (pk_cp n m).length) → mo_ag [6, 15] [22] M M' → Q none M') : pm_PC S (d + 5) 127 [.inr (.inr 19), .inl (nI n), .inl (nI m)] M Q := by
  obtain ⟨t1, t2, t3, t4⟩ := mo_tN_ok m hm.2 hm.1
  obtain ⟨a1, a2, -⟩ := pk_n1_ok n hn.2 hn.1
  obtain ⟨b1, b2⟩ := pk_n2_ok m hm.2 hm.1
  have hlen : (pk_cp n m).length = (pk_cb (cd_co (nI n))).length + (pk_n1 n + (5 + pk_n2 m)) := by
    unfold pk_cp
    simp only [List.length_append, bi_lo_len, bi_hi_len]
  rw [hlen] at hc hq
  have tail : pm_R S (pm_PC S (d + 4)) Q 127 32 [some (.inr (.inr 19)), some (.inl (nI n)), some (.inl (nI m)), some (.inl (cd_co (nI n))), none] [] M := by
    refine k_Mod_copy_32 (w_Mod_code hl (by omega) (fun M1 g1 A1 => k_Mod_copy_37 (w_Mod_baseOfLength (k_Mod_copy_43 (w_Mod_extraOfLength (k_Mod_copy_48 ?_))))))
    rw [a1]
    refine w_Mod_bits_lo (by omega) g1 (by omega) (fun M2 g2 A2 => k_Mod_copy_52 ?_)
    refine w_cp_dist hm (k_Mod_copy_71 (w_Mod_bits_hi (n := 5) (by decide) g2 (by omega) (fun M3 g3 A3 => k_Mod_copy_79 (w_Mod_baseOfDistance (k_Mod_copy_86 (w_Mod_extraOfDistance (k_Mod_copy_92 ?_))))))) (29 - mo_tN m) 29 (by omega) (by decide)
    rw [← t1, b1]
    refine w_Mod_bits_lo (by omega) g3 (by omega) (fun M4 g4 A4 => k_Mod_copy_96 (hq M4 ?_ (((A1.tr A2).tr A3).tr A4)))
    have e1 : bi_ps l t (pk_cp n m) = bi_ps (bi_ps (bi_ps (bi_ps l t (pk_cb (cd_co (nI n)))) (t + (pk_cb (cd_co (nI n))).length) (bi_lo (nI n - cd_ll (cd_co (nI n))) (pk_n1 n))) (t + (pk_cb (cd_co (nI n))).length + pk_n1 n) (bi_hi (cd_no (nI m)) 5)) (t + (pk_cb (cd_co (nI n))).length + pk_n1 n + 5) (bi_lo (nI m - cd_ld (cd_no (nI m))) (pk_n2 m)) := by
      unfold pk_cp
      rw [bi_ps_app, bi_ps_app, bi_ps_app, bi_lo_len, bi_hi_len]
    rw [e1, t1, show t + ((pk_cb (cd_co (nI n))).length + (pk_n1 n + (5 + pk_n2 m))) = t + (pk_cb (cd_co (nI n))).length + pk_n1 n + 5 + pk_n2 m by omega, ← t1]
    exact t1 ▸ g4
  refine e_Mod_copy (k_Mod_copy_0 ?_)
  by_cases e : n = 258
  · subst e
    exact k_Mod_copy_4 (fun _ => tail) (fun z => absurd (by decide) z)
  · obtain ⟨o1, o2, o3, -, -⟩ := mo_cN_ok n (by omega) hn.1
    refine k_Mod_copy_4 (fun z => absurd z (nI_ge (b := 258) (by omega) (by decide))) (fun _ => k_Mod_copy_11 (fun _ => k_Mod_copy_26 ?_) (fun z => absurd rfl z))
    exact w_cp_len ⟨hn.1, by omega⟩ tail (284 - mo_cN n) 284 (by omega) (by decide)
end MOD
