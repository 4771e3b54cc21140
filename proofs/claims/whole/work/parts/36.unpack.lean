/-! Packing.unpack. -/
def un_codes (P : List Int32) : Nat → Nat → List Int32 → Nat → Option (Nat × List Int32 × Nat)
  | 0, _, _, _ => none
  | k + 1, t, D, n => match un_code P t with
    | none => none
    | some (c, t') => if c = 256 then some (t', D, n) else if c < 256 then (if D.length < 300 then un_codes P k t' (D ++ [nI c]) n else none) else if c ≤ 285 then (match un_copy P c t' D with
      | none => none
      | some (t'', D') => un_codes P k t'' D' (n + 1)) else none
theorem un_copy_ok {P : List Int32} {c t t' : Nat} {D D' : List Int32} (h : un_copy P c t D = some (t', D')) : t + 5 ≤ t' ∧ t' ≤ 8 * P.length := by
  unfold un_copy at h
  split at h
  · rename_i hc
    simp only [Option.some.injEq, Prod.mk.injEq] at h
    have := hc.2.2.2.1
    omega
  · cases h
theorem w_codes_x {S d : Nat} {Q : pm_Q} {M : pm_M} {P : List Int32} {x1 x2 : Int32} {l3 : Option pm_V} (hx : uk_x M P) (hq : Q none M) : pm_R S (pm_PC S (d + 1)) Q 63 16 [some (.inr (.inr 4)), some (.inl x1), some (.inl x2), l3] [] M :=
  k_Pack_takeCodes_16 (fun _ => k_Pack_takeCodes_67 hq) (fun _ => k_Pack_takeCodes_21 (w_Pack_goesOn_x hx (k_Pack_takeCodes_25 (fun _ => k_Pack_takeCodes_67 hq) (fun z => absurd rfl z))))
theorem w_codes_loop {S d : Nat} {Q : pm_Q} {P : List Int32} (h1 : 1 ≤ P.length) (h700 : P.length ≤ 700) : ∀ (k i : Nat) (M : pm_M) (t : Nat) (D : List Int32) (n : Nat) (l3 : Option pm_V), 8 * P.length - t < k → 7 * i ≤ t → uk_g M P t D n → (∀ t' D' n', un_codes P k t D n = some (t', D', n') → ∀ M', uk_g M' P t' D' n' → pm_ag uk_ks M M' → Q none M') → (un_codes P k t D n = none → ∀ M', uk_x M' P → pm_ag uk_ks M M' → Q none M') → pm_R S (pm_PC S (d + 3)) Q 63 16 [some (.inr (.inr 4)), some (.inl (nI (8 * P.length))), some (.inl (nI i)), l3] [] M := by
  intro k
  induction k with
  | zero => intro i M t D n l3 hk; omega
  | succ k ih =>
    intro i M t D n l3 hk hi hg hy hq
    have ht := hg.1.2.2.1
    unfold un_codes at hy hq
    refine k_Pack_takeCodes_16 (fun z => absurd z (nI_ge (by omega) (by omega))) (fun _ => k_Pack_takeCodes_21 (w_Pack_goesOn_g hg (k_Pack_takeCodes_25 (fun z => absurd z (by decide)) (fun _ => k_Pack_takeCodes_28 (w_Pack_takeCode hg.1 (fun c t' hc M1 r1 a1 => ?_) (fun hc M1 c hc2 r1 a1 => ?_))))))
    · obtain ⟨c1, c2, c3⟩ := un_code_ok hc
      have G1 : uk_g M1 P t' D n := ⟨r1, by rw [a1 4 (by decide)]; exact hg.2.1, hg.2.2.1.keep a1 (by decide) (by decide), by rw [a1 4 (by decide)]; exact hg.2.2.2⟩
      have A1 : pm_ag uk_ks M M1 := a1.wd (by decide)
      rw [hc] at hy hq
      simp only at hy hq
      refine k_Pack_takeCodes_32 (fun z => ?_) (fun z => k_Pack_takeCodes_40 ?_)
      · have hne : ¬ c = 256 := fun e => z (by rw [e]; rfl)
        rw [if_neg hne] at hy hq
        refine k_Pack_takeCodes_41 (fun z2 => k_Pack_takeCodes_56 ?_) (fun z2 => k_Pack_takeCodes_48 ?_)
        · rw [show (256 : Int32) = nI 256 from rfl, nI_leI (by decide) (by omega)] at z2
          rw [if_neg (by omega)] at hy hq
          by_cases h285 : c ≤ 285
          · rw [if_pos h285] at hy hq
            refine w_Pack_takeCopy_g (by omega) h285 G1 (fun t2 D2 hcp M2 g2 a2 => k_Pack_takeCodes_61 ?_) (fun hcp M2 x2 a2 => k_Pack_takeCodes_61 ?_)
            · have := un_copy_ok hcp
              rw [hcp] at hy hq
              simp only at hy hq
              rw [nI_1]
              exact ih (i + 1) M2 t2 D2 (n + 1) _ (by omega) (by omega) g2 (fun t3 D3 n3 e M' q1 q2 => hy t3 D3 n3 e M' q1 ((A1.tr a2).tr q2)) (fun e M' q1 q2 => hq e M' q1 ((A1.tr a2).tr q2))
            · rw [hcp] at hq
              exact w_codes_x x2 (hq rfl M2 x2 (A1.tr a2))
          · rw [if_neg h285] at hq
            refine e_Pack_takeCopy (k_Pack_takeCopy_0 (fun q => ?_) (fun _ => k_Pack_takeCopy_7 (k_Pack_takeCodes_61 (w_codes_x G1.x (hq rfl _ G1.x (A1.tr (pm_ag.up (by decide))))))))
            exfalso
            rw [show (285 : Int32) = nI 285 from rfl, nI_leI (by omega) (by decide)] at q
            omega
        · rw [show (256 : Int32) = nI 256 from rfl, nI_leI (by decide) (by omega)] at z2
          rw [if_pos (by omega)] at hy hq
          refine w_Pack_addToData_g G1 (fun hl M2 g2 a2 _ => k_Pack_takeCodes_53 (k_Pack_takeCodes_61 ?_)) (fun hl M2 x2 a2 _ => k_Pack_takeCodes_53 (k_Pack_takeCodes_61 ?_))
          · rw [if_pos hl] at hy hq
            rw [nI_1]
            exact ih (i + 1) M2 t' _ n _ (by omega) (by omega) g2 (fun t3 D3 n3 e M' q1 q2 => hy t3 D3 n3 e M' q1 ((A1.tr a2).tr q2)) (fun e M' q1 q2 => hq e M' q1 ((A1.tr a2).tr q2))
          · rw [if_neg (by omega)] at hq
            exact w_codes_x x2 (hq rfl M2 x2 (A1.tr a2))
      · have he : c = 256 := (nI_eq (a := c) (b := 256) (by omega) (by decide)).mp (Classical.not_not.mp z)
        rw [if_pos he] at hy
        exact hy t' D n rfl M1 G1 A1
    · have X1 : uk_x M1 P := rd_x r1 (hg.2.2.1.keep a1 (by decide) (by decide)) (Or.inl (by rw [a1 4 (by decide)]; exact hg.2.1))
      have A1 : pm_ag uk_ks M M1 := a1.wd (by decide)
      rw [hc] at hq
      simp only at hq
      have hq := hq trivial
      refine k_Pack_takeCodes_32 (fun z => k_Pack_takeCodes_41 (fun z2 => k_Pack_takeCodes_56 ?_) (fun z2 => k_Pack_takeCodes_48 (w_Pack_addToData_x X1 (fun M2 x2 a2 _ => k_Pack_takeCodes_53 (k_Pack_takeCodes_61 (w_codes_x x2 (hq M2 x2 (A1.tr a2)))))))) (fun z => k_Pack_takeCodes_40 (hq M1 X1 A1))
      have hne : ¬ c = 256 := fun e => z (by rw [e]; rfl)
      rw [show (256 : Int32) = nI 256 from rfl, nI_leI (by decide) (by omega)] at z2
      exact w_Pack_takeCopy_x (by omega) hc2 X1 (fun M2 x2 a2 => k_Pack_takeCodes_61 (w_codes_x x2 (hq M2 x2 (A1.tr a2))))
theorem w_Pack_takeCodes_g {S d : Nat} {Q : pm_Q} {M : pm_M} {P : List Int32} {t n : Nat} {D : List Int32} (h1 : 1 ≤ P.length) (hg : uk_g M P t D n) (hy : ∀ t' D' n', un_codes P (8 * P.length + 1) t D n = some (t', D', n') → ∀ M', uk_g M' P t' D' n' → pm_ag uk_ks M M' → Q none M') (hq : un_codes P (8 * P.length + 1) t D n = none → ∀ M', uk_x M' P → pm_ag uk_ks M M' → Q none M') : pm_PC S (d + 4) 63 [.inr (.inr 4)] M Q := by
  have h700 := hg.1.1.lt (Or.inr (Or.inr rfl))
  refine e_Pack_takeCodes (k_Pack_takeCodes_0 ?_)
  rw [hg.1.1.1, show (8 : Int32) = nI 8 from rfl, pk_mul]
  exact w_codes_loop h1 h700 (8 * P.length + 1) 0 M t D n _ (by omega) (by omega) hg hy hq
theorem w_Pack_takeCodes_x {S d : Nat} {Q : pm_Q} {M : pm_M} {P : List Int32} (hx : uk_x M P) (hq : Q none M) : pm_PC S (d + 2) 63 [.inr (.inr 4)] M Q :=
  e_Pack_takeCodes (k_Pack_takeCodes_0 (w_codes_x hx hq))
def un_by (P : List Int32) : Nat → Nat → List Int32 → Option (Nat × List Int32)
  | 0, t, D => some (t, D)
  | k + 1, t, D => if t + 8 ≤ 8 * P.length ∧ D.length < 300 then un_by P k (t + 8) (D ++ [nI (rd_lo P t 8)]) else none
def un_plain (P : List Int32) (t : Nat) (D : List Int32) : Option (Nat × List Int32) :=
  if (t + 7) / 8 * 8 + 32 ≤ 8 * P.length ∧ rd_lo P ((t + 7) / 8 * 8) 16 + rd_lo P ((t + 7) / 8 * 8 + 16) 16 = 65535 then un_by P (rd_lo P ((t + 7) / 8 * 8) 16) ((t + 7) / 8 * 8 + 32) D else none
theorem w_by_x {S d : Nat} {Q : pm_Q} {M : pm_M} {P : List Int32} {x1 x3 : Int32} {l2 : Option pm_V} (hx : uk_x M P) (hq : Q none M) : pm_R S (pm_PC S (d + 1)) Q 61 42 [some (.inr (.inr 4)), some (.inl x1), l2, some (.inl x3)] [] M :=
  k_Pack_takePlainBytes_42 (fun _ => k_Pack_takePlainBytes_73 hq) (fun _ => k_Pack_takePlainBytes_47 (w_Pack_goesOn_x hx (k_Pack_takePlainBytes_51 (fun _ => k_Pack_takePlainBytes_73 hq) (fun z => absurd rfl z))))
theorem w_by_loop {S d : Nat} {Q : pm_Q} {P : List Int32} {m n : Nat} {x2 : Int32} (hm : m < 65536) : ∀ (k i : Nat) (M : pm_M) (t : Nat) (D : List Int32), i + k = m → uk_g M P t D n → (∀ t' D', un_by P k t D = some (t', D') → ∀ M', uk_g M' P t' D' n → pm_ag uk_ks M M' → Q none M') → (un_by P k t D = none → ∀ M', uk_x M' P → pm_ag uk_ks M M' → Q none M') → pm_R S (pm_PC S (d + 2)) Q 61 42 [some (.inr (.inr 4)), some (.inl (nI m)), some (.inl x2), some (.inl (nI i))] [] M := by
  intro k
  induction k with
  | zero =>
    intro i M t D hi hg hy hq
    have e : i = m := by omega
    subst e
    exact k_Pack_takePlainBytes_42 (fun _ => k_Pack_takePlainBytes_73 (hy t D rfl M hg pm_ag.rf)) (fun z => absurd (nI_le (Nat.le_refl _) (by omega)) z)
  | succ k ih =>
    intro i M t D hi hg hy hq
    have hD : D.length ≤ 300 := hg.2.2.1.2.1
    unfold un_by at hy hq
    refine k_Pack_takePlainBytes_42 (fun z => absurd z (nI_ge (by omega) (by omega))) (fun _ => k_Pack_takePlainBytes_47 (w_Pack_goesOn_g hg (k_Pack_takePlainBytes_51 (fun z => absurd z (by decide)) (fun _ => k_Pack_takePlainBytes_54 (w_Bits_takeLowestFirst (n := 8) (by decide) hg.1 (fun h8 M1 r1 a1 => k_Pack_takePlainBytes_64 ?_) (fun h8 M1 u hu r1 a1 => k_Pack_takePlainBytes_64 ?_))))))
    · have A1 : pm_ag uk_ks M M1 := a1.wd (by decide)
      have G1 : uk_g M1 P (t + 8) D n := ⟨r1, by rw [a1 4 (by decide)]; exact hg.2.1, hg.2.2.1.keep a1 (by decide) (by decide), by rw [a1 4 (by decide)]; exact hg.2.2.2⟩
      refine w_Pack_addToData_g G1 (fun hl M2 g2 a2 _ => k_Pack_takePlainBytes_67 ?_) (fun hl M2 x2 a2 _ => k_Pack_takePlainBytes_67 ?_)
      · rw [if_pos ⟨h8, hl⟩] at hy hq
        rw [nI_1]
        exact ih (i + 1) M2 _ _ (by omega) g2 (fun t3 D3 e M' q1 q2 => hy t3 D3 e M' q1 ((A1.tr a2).tr q2)) (fun e M' q1 q2 => hq e M' q1 ((A1.tr a2).tr q2))
      · rw [if_neg (fun z => by omega)] at hq
        exact w_by_x x2 (hq rfl M2 x2 (A1.tr a2))
    · have A1 : pm_ag uk_ks M M1 := a1.wd (by decide)
      have X1 : uk_x M1 P := rd_x r1 (hg.2.2.1.keep a1 (by decide) (by decide)) (Or.inl (by rw [a1 4 (by decide)]; exact hg.2.1))
      rw [if_neg (fun z => by omega)] at hq
      exact w_Pack_addToData_x X1 (fun M2 x2 a2 _ => k_Pack_takePlainBytes_67 (w_by_x x2 (hq rfl M2 x2 (A1.tr a2))))
theorem w_pl_x {S d : Nat} {Q : pm_Q} {M : pm_M} {P : List Int32} {x1 y0 : Int32} {l2 l3 : Option pm_V} (hx : uk_x M P) (hq : ∀ M', uk_x M' P → pm_ag uk_ks M M' → Q none M') : pm_R S (pm_PC S (d + 1)) Q 61 26 [some (.inr (.inr 4)), some (.inl x1), l2, l3] [.inl y0] M :=
  k_Pack_takePlainBytes_26 (fun _ => k_Pack_takePlainBytes_40 (w_by_x hx (hq M hx pm_ag.rf))) (fun _ => k_Pack_takePlainBytes_35 (k_Pack_takePlainBytes_40 (w_by_x hx.x (hq _ hx.x (pm_ag.up (by decide))))))
theorem w_pl_x1 {S d : Nat} {Q : pm_Q} {M : pm_M} {P : List Int32} {y0 : Int32} {l1 l2 l3 : Option pm_V} (hx : uk_x M P) (hq : ∀ M', uk_x M' P → pm_ag uk_ks M M' → Q none M') : pm_R S (pm_PC S (d + 2)) Q 61 16 [some (.inr (.inr 4)), l1, l2, l3] [.inl y0] M := by
  obtain ⟨t, o, hr⟩ := hx.rd
  exact k_Pack_takePlainBytes_16 (w_Bits_takeLowestFirst (n := 16) (by decide) hr (fun _ M1 r1 a1 => w_pl_x (hx.tk0 hr a1 r1) (fun M' q1 q2 => hq M' q1 ((a1.wd (by decide)).tr q2))) (fun _ M1 u hu r1 a1 => w_pl_x (hx.tk a1 r1) (fun M' q1 q2 => hq M' q1 ((a1.wd (by decide)).tr q2))))
theorem w_Pack_takePlainBytes_x {S d : Nat} {Q : pm_Q} {M : pm_M} {P : List Int32} (hx : uk_x M P) (hq : ∀ M', uk_x M' P → pm_ag uk_ks M M' → Q none M') : pm_PC S (d + 3) 61 [.inr (.inr 4)] M Q := by
  obtain ⟨t, o, hr⟩ := hx.rd
  refine e_Pack_takePlainBytes (k_Pack_takePlainBytes_0 (w_Bits_passOverByte hr (fun M0 r0 a0 => k_Pack_takePlainBytes_7 ?_)))
  have X0 := hx.tk0 hr a0 r0
  exact w_Bits_takeLowestFirst (n := 16) (by decide) r0 (fun _ M1 r1 a1 => w_pl_x1 (X0.tk0 r0 a1 r1) (fun M' q1 q2 => hq M' q1 (((a0.tr a1).wd (by decide)).tr q2))) (fun _ M1 u hu r1 a1 => w_pl_x1 (X0.tk a1 r1) (fun M' q1 q2 => hq M' q1 (((a0.tr a1).wd (by decide)).tr q2)))
theorem w_Pack_takePlainBytes_g {S d : Nat} {Q : pm_Q} {M : pm_M} {P : List Int32} {t n : Nat} {D : List Int32} (hg : uk_g M P t D n) (hy : ∀ t' D', un_plain P t D = some (t', D') → ∀ M', uk_g M' P t' D' n → pm_ag uk_ks M M' → Q none M') (hq : un_plain P t D = none → ∀ M', uk_x M' P → pm_ag uk_ks M M' → Q none M') : pm_PC S (d + 3) 61 [.inr (.inr 4)] M Q := by
  obtain ⟨g1, g2, g3, g4⟩ := hg
  unfold un_plain at hy hq
  refine e_Pack_takePlainBytes (k_Pack_takePlainBytes_0 (w_Bits_passOverByte g1 (fun M0 r0 a0 => k_Pack_takePlainBytes_7 ?_)))
  generalize (t + 7) / 8 * 8 = t0 at r0 hy hq
  have l1 := rd_lo_lt P t0 16
  have l2 := rd_lo_lt P (t0 + 16) 16
  refine w_Bits_takeLowestFirst (n := 16) (by decide) r0 (fun h1 M1 r1 a1 => k_Pack_takePlainBytes_16 (w_Bits_takeLowestFirst (n := 16) (by decide) r1 (fun h2 M2 r2 a2 => ?_) (fun h2 M2 u hu r2 a2 => ?_))) (fun h1 M1 u hu r1 a1 => ?_)
  · have A2 : pm_ag [7] M M2 := (a0.tr a1).tr a2
    have G2 : uk_g M2 P (t0 + 16 + 16) D n := ⟨r2, by rw [A2 4 (by decide)]; exact g2, g3.keep A2 (by decide) (by decide), by rw [A2 4 (by decide)]; exact g4⟩
    refine k_Pack_takePlainBytes_26 (fun z => k_Pack_takePlainBytes_40 ?_) (fun z => k_Pack_takePlainBytes_35 (k_Pack_takePlainBytes_40 (w_by_x G2.x (hq ?_ _ G2.x ((A2.wd (by decide)).tr (pm_ag.up (by decide)))))))
    · rw [show (65535 : Int32) = nI 65535 from rfl, pk_sub (by omega)] at z
      have z2 := (nI_eq (by omega) (by omega)).mp z
      rw [if_pos ⟨by omega, by omega⟩] at hy hq
      exact w_by_loop (by omega) (rd_lo P t0 16) 0 M2 _ D (by omega) G2 (fun t3 D3 e M' q1 q2 => hy t3 D3 e M' q1 ((A2.wd (by decide)).tr q2)) (fun e M' q1 q2 => hq e M' q1 ((A2.wd (by decide)).tr q2))
    · rw [show (65535 : Int32) = nI 65535 from rfl, pk_sub (by omega)] at z
      rw [if_neg]
      intro q
      exact z (by congr 1; omega)
  · have A2 : pm_ag [7] M M2 := (a0.tr a1).tr a2
    have X2 : uk_x M2 P := rd_x r2 (g3.keep A2 (by decide) (by decide)) (Or.inl (by rw [A2 4 (by decide)]; exact g2))
    refine w_pl_x X2 (fun M' q1 q2 => hq ?_ M' q1 ((A2.wd (by decide)).tr q2))
    rw [if_neg (fun q => by omega)]
  · have A1 : pm_ag [7] M M1 := a0.tr a1
    have X1 : uk_x M1 P := rd_x r1 (g3.keep A1 (by decide) (by decide)) (Or.inl (by rw [A1 4 (by decide)]; exact g2))
    refine w_pl_x1 X1 (fun M' q1 q2 => hq ?_ M' q1 ((A1.wd (by decide)).tr q2))
    rw [if_neg (fun q => by omega)]
