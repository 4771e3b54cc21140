def un_block (P : List Int32) (t : Nat) (D : List Int32) (n : Nat) : Option (Nat × List Int32 × Nat) :=
  if t + 2 ≤ 8 * P.length then
    (if rd_lo P t 2 = 0 then (match un_plain P (t + 2) D with
      | none => none
      | some (t', D') => some (t', D', n))
    else if rd_lo P t 2 = 1 then un_codes P (8 * P.length + 1) (t + 2) D n else none)
  else none
theorem w_Pack_takeBlock_x {S d : Nat} {Q : pm_Q} {M : pm_M} {P : List Int32} {l1 : Option pm_V} {v : Nat} (hv : v < 4) (hx : uk_x M P) (hq : ∀ M', uk_x M' P → pm_ag uk_ks M M' → Q none M') : pm_R S (pm_PC S (d + 3)) Q 60 8 [some (.inr (.inr 4)), l1] [.inl (nI v)] M :=
  k_Pack_takeBlock_8 (fun _ => k_Pack_takeBlock_20 (fun _ => k_Pack_takeBlock_32 (k_Pack_takeBlock_37 (hq _ hx.x (pm_ag.up (by decide))))) (fun _ => k_Pack_takeBlock_25 (w_Pack_takeCodes_x hx (k_Pack_takeBlock_29 (k_Pack_takeBlock_37 (hq M hx pm_ag.rf)))))) (fun _ => k_Pack_takeBlock_13 (w_Pack_takePlainBytes_x hx (fun M' q1 q2 => k_Pack_takeBlock_17 (k_Pack_takeBlock_37 (hq M' q1 q2)))))
theorem w_Pack_takeBlock_bad {S d : Nat} {Q : pm_Q} {M : pm_M} {P : List Int32} (hx : uk_x M P) (hq : ∀ M', uk_x M' P → pm_ag uk_ks M M' → Q none M') : pm_PC S (d + 4) 60 [.inr (.inr 4)] M Q := by
  obtain ⟨t, o, hr⟩ := hx.rd
  have hlt := rd_lo_lt P t 2
  exact e_Pack_takeBlock (k_Pack_takeBlock_0 (w_Bits_takeLowestFirst (n := 2) (by decide) hr (fun _ M1 r1 a1 => w_Pack_takeBlock_x hlt (hx.tk0 hr a1 r1) (fun M' q1 q2 => hq M' q1 ((a1.wd (by decide)).tr q2))) (fun _ M1 u hu r1 a1 => w_Pack_takeBlock_x hu (hx.tk a1 r1) (fun M' q1 q2 => hq M' q1 ((a1.wd (by decide)).tr q2)))))
theorem w_Pack_takeBlock_g {S d : Nat} {Q : pm_Q} {M : pm_M} {P : List Int32} {t n : Nat} {D : List Int32} (h1 : 1 ≤ P.length) (hg : uk_g M P t D n) (hy : ∀ t' D' n', un_block P t D n = some (t', D', n') → ∀ M', uk_g M' P t' D' n' → pm_ag uk_ks M M' → Q none M') (hq : un_block P t D n = none → ∀ M', uk_x M' P → pm_ag uk_ks M M' → Q none M') : pm_PC S (d + 5) 60 [.inr (.inr 4)] M Q := by
  have hlt := rd_lo_lt P t 2
  unfold un_block at hy hq
  refine e_Pack_takeBlock (k_Pack_takeBlock_0 (w_Bits_takeLowestFirst (n := 2) (by decide) hg.1 (fun h2 M1 r1 a1 => ?_) (fun h2 M1 u hu r1 a1 => ?_)))
  · have A1 : pm_ag uk_ks M M1 := a1.wd (by decide)
    have G1 : uk_g M1 P (t + 2) D n := ⟨r1, by rw [a1 4 (by decide)]; exact hg.2.1, hg.2.2.1.keep a1 (by decide) (by decide), by rw [a1 4 (by decide)]; exact hg.2.2.2⟩
    rw [if_pos h2] at hy hq
    refine k_Pack_takeBlock_8 (fun z => k_Pack_takeBlock_20 (fun z2 => k_Pack_takeBlock_32 (k_Pack_takeBlock_37 ?_)) (fun z2 => k_Pack_takeBlock_25 ?_)) (fun z => k_Pack_takeBlock_13 ?_)
    · rw [if_neg (fun e => z (by rw [e]; rfl)), if_neg (fun e => z2 (by rw [e]; rfl))] at hq
      exact hq rfl _ G1.x (A1.tr (pm_ag.up (by decide)))
    · have e1 : rd_lo P t 2 = 1 := (nI_eq (b := 1) (by omega) (by decide)).mp (Classical.not_not.mp z2)
      rw [if_neg (by omega), if_pos e1] at hy hq
      exact w_Pack_takeCodes_g h1 G1 (fun t3 D3 n3 e M' q1 q2 => k_Pack_takeBlock_29 (k_Pack_takeBlock_37 (hy t3 D3 n3 e M' q1 (A1.tr q2)))) (fun e M' q1 q2 => k_Pack_takeBlock_29 (k_Pack_takeBlock_37 (hq e M' q1 (A1.tr q2))))
    · have e0 : rd_lo P t 2 = 0 := (nI_eq (b := 0) (by omega) (by decide)).mp (Classical.not_not.mp z)
      rw [if_pos e0] at hy hq
      refine w_Pack_takePlainBytes_g G1 (fun t3 D3 e M' q1 q2 => k_Pack_takeBlock_17 (k_Pack_takeBlock_37 (hy t3 D3 n ?_ M' q1 (A1.tr q2)))) (fun e M' q1 q2 => k_Pack_takeBlock_17 (k_Pack_takeBlock_37 (hq ?_ M' q1 (A1.tr q2))))
      · rw [e]
      · rw [e]
  · have X1 : uk_x M1 P := rd_x r1 (hg.2.2.1.keep a1 (by decide) (by decide)) (Or.inl (by rw [a1 4 (by decide)]; exact hg.2.1))
    rw [if_neg (by omega)] at hq
    exact w_Pack_takeBlock_x hu X1 (fun M' q1 q2 => hq rfl M' q1 ((a1.wd (by decide)).tr q2))
theorem un_codes_ge (P : List Int32) : ∀ k t D n t' D' n', un_codes P k t D n = some (t', D', n') → t ≤ t' ∧ t' ≤ 8 * P.length
  | 0, _, _, _, _, _, _, h => by cases h
  | k + 1, t, D, n, t', D', n', h => by
    unfold un_codes at h
    cases hc : un_code P t with
    | none => rw [hc] at h; cases h
    | some p =>
      obtain ⟨c, t1⟩ := p
      obtain ⟨c1, c2, c3⟩ := un_code_ok hc
      rw [hc] at h
      simp only at h
      split at h
      · simp only [Option.some.injEq, Prod.mk.injEq] at h
        omega
      · split at h
        · split at h
          · have := un_codes_ge P k _ _ _ _ _ _ h
            omega
          · cases h
        · split at h
          · cases hp : un_copy P c t1 D with
            | none => rw [hp] at h; cases h
            | some q =>
              obtain ⟨t2, D2⟩ := q
              have h2 := un_copy_ok hp
              rw [hp] at h
              have := un_codes_ge P k _ _ _ _ _ _ h
              omega
          · cases h
theorem un_by_ge (P : List Int32) : ∀ k t D t' D', un_by P k t D = some (t', D') → t ≤ 8 * P.length → t ≤ t' ∧ t' ≤ 8 * P.length
  | 0, t, D, t', D', h, hl => by
    unfold un_by at h
    simp only [Option.some.injEq, Prod.mk.injEq] at h
    omega
  | k + 1, t, D, t', D', h, hl => by
    unfold un_by at h
    split at h
    · rename_i hc
      have := un_by_ge P k _ _ _ _ h hc.1
      omega
    · cases h
theorem un_block_ge {P : List Int32} {t n t' n' : Nat} {D D' : List Int32} (h : un_block P t D n = some (t', D', n')) : t ≤ t' ∧ t' ≤ 8 * P.length := by
  unfold un_block at h
  split at h
  · split at h
    · cases hp : un_plain P (t + 2) D with
      | none => rw [hp] at h; cases h
      | some q =>
        obtain ⟨t2, D2⟩ := q
        rw [hp] at h
        simp only [Option.some.injEq, Prod.mk.injEq] at h
        unfold un_plain at hp
        split at hp
        · rename_i hc
          have := un_by_ge P _ _ _ _ _ hp hc.1
          omega
        · cases hp
    · split at h
      · have := un_codes_ge P _ _ _ _ _ _ _ h
        omega
      · cases h
  · cases h
def un_blocks (P : List Int32) : Nat → Nat → List Int32 → Nat → Option (Nat × List Int32 × Nat)
  | 0, _, _, _ => none
  | k + 1, t, D, n => if t + 1 ≤ 8 * P.length then (match un_block P (t + 1) D n with
    | none => none
    | some (t', D', n') => if rd_b P t = 1 then some (t', D', n') else un_blocks P k t' D' n') else none
theorem w_bks_loop {S d : Nat} {Q : pm_Q} {P : List Int32} (h1 : 2 ≤ P.length) (h700 : P.length ≤ 700) : ∀ (k i : Nat) (M : pm_M) (t : Nat) (D : List Int32) (n : Nat), 8 * P.length - t < k → i + 1 ≤ t → uk_g M P t D n → (∀ t' D' n', un_blocks P k t D n = some (t', D', n') → ∀ M' l3, uk_g M' P t' D' n' → pm_ag uk_ks M M' → pm_R S (pm_PC S (d + 5)) Q 56 95 [some (.inr (.inr 4)), some (.inl 1), some (.inl (nI (8 * P.length))), l3] [] M') → (un_blocks P k t D n = none → ∀ M' x1 l3, (x1 = 0 ∨ x1 = 1) → uk_x M' P → pm_ag uk_ks M M' → pm_R S (pm_PC S (d + 5)) Q 56 95 [some (.inr (.inr 4)), some (.inl x1), some (.inl (nI (8 * P.length))), l3] [] M') → pm_R S (pm_PC S (d + 5)) Q 56 52 [some (.inr (.inr 4)), some (.inl 0), some (.inl (nI (8 * P.length))), some (.inl (nI i))] [] M := by
  intro k
  induction k with
  | zero => intro i M t D n hk; omega
  | succ k ih =>
    intro i M t D n hk hi hg hy hq
    have ht := hg.1.2.2.1
    have xend : ∀ M' x1 x3, (x1 = 0 ∨ x1 = 1) → uk_x M' P → (∀ l3, pm_R S (pm_PC S (d + 5)) Q 56 95 [some (.inr (.inr 4)), some (.inl x1), some (.inl (nI (8 * P.length))), l3] [] M') → pm_R S (pm_PC S (d + 5)) Q 56 52 [some (.inr (.inr 4)), some (.inl x1), some (.inl (nI (8 * P.length))), some (.inl x3)] [] M' := by
      intro M' x1 x3 _ hx he
      exact k_Pack_unpack_52 (fun _ => he _) (fun _ => k_Pack_unpack_57 (fun _ => he _) (fun _ => k_Pack_unpack_61 (w_Pack_goesOn_x hx (k_Pack_unpack_65 (fun _ => he _) (fun z => absurd rfl z)))))
    unfold un_blocks at hy hq
    refine k_Pack_unpack_52 (fun z => absurd z (nI_ge (by omega) (by omega))) (fun _ => k_Pack_unpack_57 (fun z => absurd rfl z) (fun _ => k_Pack_unpack_61 (w_Pack_goesOn_g hg (k_Pack_unpack_65 (fun z => absurd z (by decide)) (fun _ => k_Pack_unpack_68 (w_Bits_take hg.1 (fun hlt M1 r1 a1 => ?_) (fun he M1 r1 a1 => ?_)))))))
    · have A1 : pm_ag uk_ks M M1 := a1.wd (by decide)
      have G1 : uk_g M1 P (t + 1) D n := ⟨r1, by rw [a1 4 (by decide)]; exact hg.2.1, hg.2.2.1.keep a1 (by decide) (by decide), by rw [a1 4 (by decide)]; exact hg.2.2.2⟩
      rw [if_pos (by omega)] at hy hq
      have hb := rd_b_lt P t
      have key : ∀ x1 : Int32, x1 = nI (rd_b P t) → ∀ l1, pm_R S (pm_PC S (d + 5)) Q 56 84 [some (.inr (.inr 4)), l1, some (.inl (nI (8 * P.length))), some (.inl (nI i))] [.inl x1] M1 := by
        intro x1 hx1 l1
        have hx01 : x1 = 0 ∨ x1 = 1 := by
          have : rd_b P t = 0 ∨ rd_b P t = 1 := by omega
          rcases this with e | e
          · left; rw [hx1, e]; rfl
          · right; rw [hx1, e]; rfl
        refine k_Pack_unpack_84 (w_Pack_takeBlock_g (by omega) G1 (fun t2 D2 n2 e M2 g2 a2 => k_Pack_unpack_89 ?_) (fun e M2 x2 a2 => k_Pack_unpack_89 ?_))
        · rw [e] at hy hq
          simp only at hy hq
          have hge := un_block_ge e
          rw [nI_1]
          by_cases hl : rd_b P t = 1
          · rw [if_pos hl] at hy
            have e1 : x1 = 1 := by rw [hx1, hl]; rfl
            rw [e1]
            have he := hy t2 D2 n2 rfl M2
            exact k_Pack_unpack_52 (fun _ => he _ g2 (A1.tr a2)) (fun _ => k_Pack_unpack_57 (fun _ => he _ g2 (A1.tr a2)) (fun z => absurd (by decide) z))
          · rw [if_neg hl] at hy hq
            have e0 : x1 = 0 := by
              have : rd_b P t = 0 := by omega
              rw [hx1, this]; rfl
            rw [e0]
            exact ih (i + 1) M2 t2 D2 n2 (by omega) (by omega) g2 (fun t3 D3 n3 e M' l3 q1 q2 => hy t3 D3 n3 e M' l3 q1 ((A1.tr a2).tr q2)) (fun e M' x1 l3 hx q1 q2 => hq e M' x1 l3 hx q1 ((A1.tr a2).tr q2))
        · rw [e] at hq
          exact xend M2 x1 _ hx01 x2 (fun l3 => hq rfl M2 x1 l3 hx01 x2 (A1.tr a2))
      refine k_Pack_unpack_75 (fun z => k_Pack_unpack_83 (key 0 ?_ _)) (fun z => k_Pack_unpack_79 (key 1 ?_ _))
      · have : rd_b P t = 0 := by
          have : ¬ rd_b P t = 1 := fun e => z (by rw [e]; rfl)
          omega
        rw [this]; rfl
      · exact (Classical.not_not.mp z).symm
    · have A1 : pm_ag uk_ks M M1 := a1.wd (by decide)
      have X1 : uk_x M1 P := rd_x r1 (hg.2.2.1.keep a1 (by decide) (by decide)) (Or.inl (by rw [a1 4 (by decide)]; exact hg.2.1))
      rw [if_neg (by omega)] at hq
      refine k_Pack_unpack_75 (fun _ => k_Pack_unpack_83 (k_Pack_unpack_84 (w_Pack_takeBlock_bad X1 (fun M2 x2 a2 => k_Pack_unpack_89 ?_)))) (fun z => absurd (Classical.not_not.mp z) (by decide))
      exact xend M2 0 _ (Or.inl rfl) x2 (fun l3 => hq rfl M2 0 l3 (Or.inl rfl) x2 (A1.tr a2))
def un_p (P : List Int32) (i : Nat) : Int32 := (P[i]?).getD (-1)
abbrev un_st (P : List Int32) : Prop := 2 ≤ P.length ∧ pm_irem (un_p P 0) 16 = 8 ∧ ¬ 128 ≤ un_p P 0 ∧ pm_irem (256 * un_p P 0 + un_p P 1) 31 = 0 ∧ un_p P 1 &&& 32 = 0
/-- the data and the number of copies, or nothing -/
def un_all (P : List Int32) : Option (List Int32 × Nat) := if un_st P then (match un_blocks P (8 * P.length + 1) 16 [] 0 with
  | none => none
  | some (t, D, n) => if (t + 7) / 8 + 4 = P.length ∧ by_num P ((t + 7) / 8) = su_l D then some (D, n) else none) else none
theorem w_Pack_startIsRight {S d : Nat} {Q : pm_Q} {M : pm_M} {P : List Int32} (h8 : by_is M 8 P) (hy : un_st P → Q (some (.inl 1)) M) (hn : ¬ un_st P → Q (some (.inl 0)) M) : pm_PC S (d + 2) 58 [.inr (.inr 4)] M Q := by
  have hb : by_b 8 := Or.inr (Or.inr rfl)
  have h700 := h8.lt hb
  refine e_Pack_startIsRight (k_Pack_startIsRight_0 (fun z => k_Pack_startIsRight_16 (w_Bytes_at hb h8 (k_Pack_startIsRight_27 (w_Bytes_at hb h8 ?_)))) (fun z => k_Pack_startIsRight_14 (hn (fun q => z ?_))))
  · rw [h8.1, show (2 : Int32) = nI 2 from rfl, nI_leI (by decide) (by omega)] at z
    rw [show (0 : Int32) = nI 0 from rfl, show (1 : Int32) = nI 1 from rfl, by_at_nI (by decide), by_at_nI (by decide)]
    refine k_Pack_startIsRight_39 (fun q => k_Pack_startIsRight_80 (k_Pack_startIsRight_81 (by decide) (hn (fun s => q s.2.1)))) (fun q1 => k_Pack_startIsRight_49 (fun q => k_Pack_startIsRight_80 (k_Pack_startIsRight_81 (by decide) (hn (fun s => s.2.2.1 q)))) (fun q2 => k_Pack_startIsRight_56 (fun q => k_Pack_startIsRight_80 (k_Pack_startIsRight_81 (by decide) (hn (fun s => q s.2.2.2.1)))) (fun q3 => k_Pack_startIsRight_69 (fun q => k_Pack_startIsRight_80 (k_Pack_startIsRight_81 (by decide) (hn (fun s => q s.2.2.2.2)))) (fun q4 => k_Pack_startIsRight_76 (k_Pack_startIsRight_81 (by decide) (hy ⟨z, Classical.not_not.mp q1, q2, Classical.not_not.mp q3, Classical.not_not.mp q4⟩))))))
  · rw [h8.1, show (2 : Int32) = nI 2 from rfl]
    exact nI_le q.1 (by omega)
theorem w_Pack_endIsRight {S d : Nat} {Q : pm_Q} {M : pm_M} {P : List Int32} {t n : Nat} {D : List Int32} (hg : uk_g M P t D n) (hy : t / 8 + 4 = P.length → by_num P (t / 8) = su_l D → Q (some (.inl 1)) M) (hn : ¬ (t / 8 + 4 = P.length ∧ by_num P (t / 8) = su_l D) → Q (some (.inl 0)) M) : pm_PC S (d + 3) 59 [.inr (.inr 4)] M Q := by
  have hb : by_b 8 := Or.inr (Or.inr rfl)
  have hb5 : by_b 5 := Or.inr (Or.inl rfl)
  have h700 := hg.1.1.lt hb
  have ht := hg.1.2.2.1
  have ed : M 7 1 / 8 = nI (t / 8) := by rw [hg.1.2.1]; exact nm_div8 (by omega)
  refine e_Pack_endIsRight (k_Pack_endIsRight_0 (fun z => k_Pack_endIsRight_52 (k_Pack_endIsRight_53 (by decide) (hn (fun q => z ?_)))) (fun z => k_Pack_endIsRight_27 ?_))
  · rw [ed, hg.1.1.1, show (4 : Int32) = nI 4 from rfl, nI_add, q.1]
  · have z := Classical.not_not.mp z
    rw [ed, hg.1.1.1, show (4 : Int32) = nI 4 from rfl, nI_add] at z
    have z2 := (nI_eq (by omega) (by omega)).mp z
    rw [ed]
    refine w_Bytes_numberAt hb hg.1.1 (by omega) (k_Pack_endIsRight_38 (w_Bytes_sum hb5 hg.2.2.1 (k_Pack_endIsRight_45 (fun q => k_Pack_endIsRight_52 (k_Pack_endIsRight_53 (by decide) (hn (fun s => q s.2)))) (fun q => k_Pack_endIsRight_48 (k_Pack_endIsRight_53 (by decide) (hy z2 (Classical.not_not.mp q)))))))
theorem w_Pack_unpack {S d : Nat} {Q : pm_Q} {M : pm_M} {P : List Int32} (h8 : by_is M 8 P) (hy : ∀ D n, un_all P = some (D, n) → ∀ M', by_is M' 5 D → M' 4 2 = nI n → pm_ag uk_ks M M' → Q (some (.inl 1)) M') (hn : un_all P = none → ∀ M', pm_ag uk_ks M M' → Q (some (.inl 0)) M') : pm_PC S (d + 6) 56 [.inr (.inr 4)] M Q := by
  have h700 := h8.lt (Or.inr (Or.inr rfl))
  refine e_Pack_unpack (k_Pack_unpack_0 (w_Bytes_clear (Or.inr (Or.inl rfl)) (fun M1 g1 a1 => k_Pack_unpack_7 ?_)))
  have a2 : pm_ag [4] M1 (pm_up (pm_up M1 4 2 0) 4 3 0) := (pm_ag.up (by simp)).tr (pm_ag.up (by simp))
  have A2 : pm_ag uk_ks M (pm_up (pm_up M1 4 2 0) 4 3 0) := (a1.wd (ks' := uk_ks) (by decide)).of a2 (by decide)
  refine w_Pack_startIsRight ((h8.keep a1 (by decide) (by decide)).keep a2 (by decide) (by decide)) (fun hst => ?_) (fun hst => k_Pack_unpack_21 (fun z => absurd rfl z) (fun _ => k_Pack_unpack_24 (hn ?_ _ A2)))
  · unfold un_all at hy hn
    rw [if_pos hst] at hy hn
    refine k_Pack_unpack_21 (fun _ => k_Pack_unpack_26 (w_Bits_startAtByte (k := 2) (fun M3 q1 q2 a3 => k_Pack_unpack_34 ?_))) (fun z => absurd (by decide) z)
    have A3 : pm_ag uk_ks M M3 := A2.of a3 (by decide)
    have h83 : by_is M3 8 P := h8.keep A3 (by decide) (by decide)
    have G3 : uk_g M3 P 16 [] 0 := ⟨⟨h83, q1, by have := hst.1; omega, q2⟩, by rw [a3 4 (by decide), pm_up_hit], (g1.keep a2 (by decide) (by decide)).keep a3 (by decide) (by decide), by rw [a3 4 (by decide), pm_up_off (Or.inr (by decide)), pm_up_hit]; rfl⟩
    rw [h83.1, show (8 : Int32) = nI 8 from rfl, pk_mul]
    refine w_bks_loop hst.1 h700 (8 * P.length + 1) 0 M3 16 [] 0 (by omega) (by decide) G3 (fun t D n e M4 l3 g4 a4 => k_Pack_unpack_95 ?_) (fun e M4 x1 l3 hx1 x4 a4 => k_Pack_unpack_95 ?_)
    · rw [e] at hy hn
      simp only at hy hn
      refine w_Bits_passOverByte g4.1 (fun M5 r5 a5 => k_Pack_unpack_102 (fun z => absurd z (by decide)) (fun _ => k_Pack_unpack_106 ?_))
      have A5 : pm_ag uk_ks M M5 := (A3.tr a4).of a5 (by decide)
      have G5 : uk_g M5 P ((t + 7) / 8 * 8) D n := ⟨r5, by rw [a5 4 (by decide)]; exact g4.2.1, g4.2.2.1.keep a5 (by decide) (by decide), by rw [a5 4 (by decide)]; exact g4.2.2.2⟩
      have e8 : (t + 7) / 8 * 8 / 8 = (t + 7) / 8 := by omega
      refine w_Pack_goesOn_g G5 (k_Pack_unpack_110 (fun z => absurd z (by decide)) (fun _ => k_Pack_unpack_113 (w_Pack_endIsRight G5 (fun s1 s2 => ?_) (fun s => ?_))))
      · rw [e8] at s1 s2
        rw [if_pos ⟨s1, s2⟩] at hy
        exact k_Pack_unpack_117 (fun z => absurd z (by decide)) (fun _ => k_Pack_unpack_120 (k_Pack_unpack_125 (by decide) (hy D n rfl M5 G5.2.2.1 G5.2.2.2 A5)))
      · rw [e8] at s
        rw [if_neg s] at hn
        exact k_Pack_unpack_117 (fun _ => k_Pack_unpack_124 (k_Pack_unpack_125 (by decide) (hn rfl M5 A5))) (fun z => absurd rfl z)
    · rw [e] at hn
      obtain ⟨t, o, hr⟩ := x4.rd
      refine w_Bits_passOverByte hr (fun M5 r5 a5 => ?_)
      have A5 : pm_ag uk_ks M M5 := (A3.tr a4).of a5 (by decide)
      have X5 := x4.tk0 hr a5 r5
      have he : pm_R S (pm_PC S (d + 5)) Q 56 124 [some (.inr (.inr 4)), some (.inl x1), some (.inl (nI (8 * P.length))), l3] [] M5 := k_Pack_unpack_124 (k_Pack_unpack_125 (by decide) (hn rfl M5 A5))
      exact k_Pack_unpack_102 (fun _ => he) (fun _ => k_Pack_unpack_106 (w_Pack_goesOn_x X5 (k_Pack_unpack_110 (fun _ => he) (fun z => absurd rfl z))))
  · unfold un_all
    rw [if_neg hst]
