/-! Packing: taking codes and copies. -/
def ux_lb (c : Nat) : Nat := (cd_lb (nI c)).toNatClampNeg
def ux_ll (c : Nat) : Nat := (cd_ll (nI c)).toNatClampNeg
def ux_db (t : Nat) : Nat := (cd_db (nI t)).toNatClampNeg
def ux_ld (t : Nat) : Nat := (cd_ld (nI t)).toNatClampNeg
theorem ux_len : ∀ c, c < 286 → 257 ≤ c → cd_lb (nI c) = nI (ux_lb c) ∧ ux_lb c ≤ 5 ∧ cd_ll (nI c) = nI (ux_ll c) ∧ ux_ll c ≤ 258 ∧ 3 ≤ ux_ll c := by decide +kernel
theorem ux_dis : ∀ t, t < 30 → cd_db (nI t) = nI (ux_db t) ∧ ux_db t ≤ 13 ∧ cd_ld (nI t) = nI (ux_ld t) ∧ ux_ld t ≤ 24577 ∧ 1 ≤ ux_ld t := by decide +kernel
def un_code (P : List Int32) (t : Nat) : Option (Nat × Nat) :=
  if t + 7 ≤ 8 * P.length then
    (if rd_hi P t 7 < 24 then some (256 + rd_hi P t 7, t + 7)
    else if t + 8 ≤ 8 * P.length then
      (if rd_hi P t 8 < 192 then some (rd_hi P t 8 - 48, t + 8)
      else if rd_hi P t 8 < 200 then some (rd_hi P t 8 + 88, t + 8)
      else if t + 9 ≤ 8 * P.length then some (rd_hi P t 9 - 256, t + 9) else none)
    else none)
  else none
theorem un_code_ok {P : List Int32} {t c t' : Nat} (h : un_code P t = some (c, t')) : c ≤ 287 ∧ t + 7 ≤ t' ∧ t' ≤ 8 * P.length := by
  have a7 := rd_hi_lt P t 7
  have a8 := rd_hi_lt P t 8
  have a9 := rd_hi_lt P t 9
  unfold un_code at h
  split at h
  · split at h
    · simp only [Option.some.injEq, Prod.mk.injEq] at h; omega
    · split at h
      · split at h
        · simp only [Option.some.injEq, Prod.mk.injEq] at h; omega
        · split at h
          · simp only [Option.some.injEq, Prod.mk.injEq] at h; omega
          · split at h
            · simp only [Option.some.injEq, Prod.mk.injEq] at h; omega
            · cases h
      · cases h
  · cases h
theorem w_code_bad {S d : Nat} {Q : pm_Q} {M : pm_M} {P : List Int32} {v : Nat} (hv : v < 128) (hr : rd_is M P (8 * P.length) 1) {l1 : Option pm_V} (hq : ∀ M' c, c ≤ 287 → rd_is M' P (8 * P.length) 1 → pm_ag [7] M M' → Q (some (.inl (nI c))) M') : pm_R S (pm_PC S (d + 1)) Q 64 9 [some (.inr (.inr 4)), l1] [.inl (nI v)] M := by
  refine k_Pack_takeCode_9 (fun h => k_Pack_takeCode_22 ?_) (fun h => k_Pack_takeCode_16 ?_)
  · rw [show (24 : Int32) = nI 24 from rfl, nI_leI (by decide) (by omega)] at h
    refine w_Bits_take hr (fun z => by omega) (fun _ M1 g1 g2 => ?_)
    have e1 : pm_ishl (nI v) 1 ||| nI 0 = nI (2 * v) := by rw [nb_orhi (by omega) (by decide)]; rfl
    refine k_Pack_takeCode_32 (fun h2 => ?_) (fun h2 => k_Pack_takeCode_41 ?_)
    · rw [e1] at h2 ⊢
      rw [show (192 : Int32) = nI 192 from rfl, nI_leI (by decide) (by omega)] at h2
      refine k_Pack_takeCode_46 (fun h3 => k_Pack_takeCode_58 ?_) (fun h3 => k_Pack_takeCode_53 ?_)
      · rw [show (200 : Int32) = nI 200 from rfl, nI_leI (by decide) (by omega)] at h3
        refine w_Bits_take g1 (fun z => by omega) (fun _ M2 q1 q2 => k_Pack_takeCode_68 ?_)
        rw [nb_orhi (by omega) (by decide), show (256 : Int32) = nI 256 from rfl, pk_sub (by omega)]
        exact hq M2 _ (by omega) q1 (g2.tr q2)
      · rw [show (200 : Int32) = nI 200 from rfl, nI_leI (by decide) (by omega)] at h3
        rw [show (88 : Int32) = nI 88 from rfl, nI_add]
        exact hq M1 _ (by omega) g1 g2
    · rw [e1] at h2 ⊢
      rw [show (192 : Int32) = nI 192 from rfl, nI_leI (by decide) (by omega)] at h2
      rw [show (48 : Int32) = nI 48 from rfl, pk_sub (by omega)]
      exact hq M1 _ (by omega) g1 g2
  · rw [show (24 : Int32) = nI 24 from rfl, nI_leI (by decide) (by omega)] at h
    rw [show (256 : Int32) = nI 256 from rfl, nI_add]
    exact hq M _ (by omega) hr pm_ag.rf
theorem w_Pack_takeCode {S d : Nat} {Q : pm_Q} {M : pm_M} {P : List Int32} {t : Nat} {o : Int32} (hr : rd_is M P t o) (hy : ∀ c t', un_code P t = some (c, t') → ∀ M', rd_is M' P t' o → pm_ag [7] M M' → Q (some (.inl (nI c))) M') (hq : un_code P t = none → ∀ M' c, c ≤ 287 → rd_is M' P (8 * P.length) 1 → pm_ag [7] M M' → Q (some (.inl (nI c))) M') : pm_PC S (d + 3) 64 [.inr (.inr 4)] M Q := by
  have a7 := rd_hi_lt P t 7
  have a8 := rd_hi_lt P t 8
  have a9 := rd_hi_lt P t 9
  refine e_Pack_takeCode (k_Pack_takeCode_0 (w_Bits_takeHighestFirst (n := 7) (by decide) hr (fun h7 M1 g1 g2 => ?_) (fun h7 M1 v hv g1 g2 => w_code_bad hv g1 (fun M' c hc q1 q2 => hq ?_ M' c hc q1 (g2.tr q2)))))
  · refine k_Pack_takeCode_9 (fun h => k_Pack_takeCode_22 ?_) (fun h => k_Pack_takeCode_16 ?_)
    · rw [show (24 : Int32) = nI 24 from rfl, nI_leI (by decide) (by omega)] at h
      refine w_Bits_take g1 (fun z M2 q1 q2 => ?_) (fun z M2 q1 q2 => ?_)
      · have e8 : pm_ishl (nI (rd_hi P t 7)) 1 ||| nI (rd_b P (t + 7)) = nI (rd_hi P t 8) := nb_orhi (by omega) (rd_b_lt _ _)
        have e88 : rd_hi P t 8 = 2 * rd_hi P t 7 + rd_b P (t + 7) := rfl
        refine k_Pack_takeCode_32 (fun h2 => ?_) (fun h2 => k_Pack_takeCode_41 ?_)
        · rw [e8] at h2 ⊢
          rw [show (192 : Int32) = nI 192 from rfl, nI_leI (by decide) (by omega)] at h2
          refine k_Pack_takeCode_46 (fun h3 => k_Pack_takeCode_58 ?_) (fun h3 => k_Pack_takeCode_53 ?_)
          · rw [show (200 : Int32) = nI 200 from rfl, nI_leI (by decide) (by omega)] at h3
            refine w_Bits_take q1 (fun z2 M3 r1 r2 => k_Pack_takeCode_68 ?_) (fun z2 M3 r1 r2 => k_Pack_takeCode_68 ?_)
            · have e9 : pm_ishl (nI (rd_hi P t 8)) 1 ||| nI (rd_b P (t + 7 + 1)) = nI (rd_hi P t 9) := nb_orhi (by omega) (rd_b_lt _ _)
              have e99 : rd_hi P t 9 = 2 * rd_hi P t 8 + rd_b P (t + 8) := rfl
              rw [e9, show (256 : Int32) = nI 256 from rfl, pk_sub (by omega)]
              refine hy _ (t + 9) ?_ M3 r1 ((g2.tr q2).tr r2)
              unfold un_code
              rw [if_pos h7, if_neg (by omega), if_pos (by omega), if_neg (by omega), if_neg (by omega), if_pos (by omega)]
            · rw [nb_orhi (by omega) (by decide), show (256 : Int32) = nI 256 from rfl, pk_sub (by omega)]
              rw [z2] at r1
              refine hq ?_ M3 _ (by omega) r1 ((g2.tr q2).tr r2)
              unfold un_code
              rw [if_pos h7, if_neg (by omega), if_pos (by omega), if_neg (by omega), if_neg (by omega), if_neg (by omega)]
          · rw [show (200 : Int32) = nI 200 from rfl, nI_leI (by decide) (by omega)] at h3
            rw [show (88 : Int32) = nI 88 from rfl, nI_add]
            refine hy _ (t + 8) ?_ M2 q1 (g2.tr q2)
            unfold un_code
            rw [if_pos h7, if_neg (by omega), if_pos (by omega), if_neg (by omega), if_pos (by omega)]
        · rw [e8] at h2 ⊢
          rw [show (192 : Int32) = nI 192 from rfl, nI_leI (by decide) (by omega)] at h2
          rw [show (48 : Int32) = nI 48 from rfl, pk_sub (by omega)]
          refine hy _ (t + 8) ?_ M2 q1 (g2.tr q2)
          unfold un_code
          rw [if_pos h7, if_neg (by omega), if_pos (by omega), if_pos (by omega)]
      · -- the eighth bit is wanting
        have hno : un_code P t = none := by
          unfold un_code
          rw [if_pos h7, if_neg (by omega), if_neg (by omega)]
        rw [z] at q1
        have e1 : pm_ishl (nI (rd_hi P t 7)) 1 ||| nI 0 = nI (2 * rd_hi P t 7) := by rw [nb_orhi (by omega) (by decide)]; rfl
        refine k_Pack_takeCode_32 (fun h2 => ?_) (fun h2 => k_Pack_takeCode_41 ?_)
        · rw [e1] at h2 ⊢
          rw [show (192 : Int32) = nI 192 from rfl, nI_leI (by decide) (by omega)] at h2
          refine k_Pack_takeCode_46 (fun h3 => k_Pack_takeCode_58 ?_) (fun h3 => k_Pack_takeCode_53 ?_)
          · rw [show (200 : Int32) = nI 200 from rfl, nI_leI (by decide) (by omega)] at h3
            refine w_Bits_take q1 (fun z => by omega) (fun _ M3 r1 r2 => k_Pack_takeCode_68 ?_)
            rw [nb_orhi (by omega) (by decide), show (256 : Int32) = nI 256 from rfl, pk_sub (by omega)]
            exact hq hno M3 _ (by omega) r1 ((g2.tr q2).tr r2)
          · rw [show (200 : Int32) = nI 200 from rfl, nI_leI (by decide) (by omega)] at h3
            rw [show (88 : Int32) = nI 88 from rfl, nI_add]
            exact hq hno M2 _ (by omega) q1 (g2.tr q2)
        · rw [e1] at h2 ⊢
          rw [show (192 : Int32) = nI 192 from rfl, nI_leI (by decide) (by omega)] at h2
          rw [show (48 : Int32) = nI 48 from rfl, pk_sub (by omega)]
          exact hq hno M2 _ (by omega) q1 (g2.tr q2)
    · rw [show (24 : Int32) = nI 24 from rfl, nI_leI (by decide) (by omega)] at h
      rw [show (256 : Int32) = nI 256 from rfl, nI_add]
      refine hy _ (t + 7) ?_ M1 g1 g2
      unfold un_code
      rw [if_pos h7, if_pos (by omega)]
  · unfold un_code
    rw [if_neg (by omega)]
/-- good: nothing refused; bad: refused, or the bits have run out -/
def uk_g (M : pm_M) (P : List Int32) (t : Nat) (D : List Int32) (n : Nat) : Prop := rd_is M P t 0 ∧ M 4 3 = 0 ∧ by_is M 5 D ∧ M 4 2 = nI n
def uk_x (M : pm_M) (P : List Int32) : Prop := ∃ (t : Nat) (o : Int32) (D : List Int32), rd_is M P t o ∧ by_is M 5 D ∧ (o = 0 ∨ o = 1) ∧ (M 4 3 = 0 ∨ M 4 3 = 1) ∧ (o = 1 ∨ M 4 3 = 1)
def uk_ks : List Nat := [4, 5, 6, 7]
theorem uk_g.x {M : pm_M} {P : List Int32} {t : Nat} {D : List Int32} {n : Nat} (h : uk_g M P t D n) : uk_x (pm_up M 4 3 1) P :=
  ⟨t, 0, D, h.1.keep (pm_ag.up (ks := [4]) (by simp)) (by decide) (by decide) (by decide), h.2.2.1.keep (pm_ag.up (ks := [4]) (by simp)) (by decide) (by decide), Or.inl rfl, Or.inr pm_up_hit, Or.inr pm_up_hit⟩
theorem uk_x.x {M : pm_M} {P : List Int32} (h : uk_x M P) : uk_x (pm_up M 4 3 1) P := by
  obtain ⟨t, o, D, h1, h2, h3, -, -⟩ := h
  exact ⟨t, o, D, h1.keep (pm_ag.up (ks := [4]) (by simp)) (by decide) (by decide) (by decide), h2.keep (pm_ag.up (ks := [4]) (by simp)) (by decide) (by decide), h3, Or.inr pm_up_hit, Or.inr pm_up_hit⟩
theorem uk_x.up4 {M : pm_M} {P : List Int32} {j : Nat} {x : Int32} (h : uk_x M P) (hj : j ≠ 3) : uk_x (pm_up M 4 j x) P := by
  obtain ⟨t, o, D, h1, h2, h3, h4, h5⟩ := h
  have e : pm_up M 4 j x 4 3 = M 4 3 := pm_up_off (Or.inr (Ne.symm hj))
  exact ⟨t, o, D, h1.keep (pm_ag.up (ks := [4]) (by simp)) (by decide) (by decide) (by decide), h2.keep (pm_ag.up (ks := [4]) (by simp)) (by decide) (by decide), h3, by rw [e]; exact h4, by rw [e]; exact h5⟩
theorem w_Pack_goesOn_g {S d : Nat} {Q : pm_Q} {M : pm_M} {P : List Int32} {t : Nat} {D : List Int32} {n : Nat} (h : uk_g M P t D n) (hq : Q (some (.inl 1)) M) : pm_PC S (d + 1) 57 [.inr (.inr 4)] M Q :=
  e_Pack_goesOn (k_Pack_goesOn_0 (fun z => absurd h.2.1 z) (fun _ => k_Pack_goesOn_7 (fun z => absurd h.1.2.2.2 z) (fun _ => k_Pack_goesOn_17 (k_Pack_goesOn_22 (by decide) hq))))
theorem w_Pack_goesOn_x {S d : Nat} {Q : pm_Q} {M : pm_M} {P : List Int32} (h : uk_x M P) (hq : Q (some (.inl 0)) M) : pm_PC S (d + 1) 57 [.inr (.inr 4)] M Q := by
  obtain ⟨t, o, D, h1, h2, h3, h4, h5⟩ := h
  refine e_Pack_goesOn (k_Pack_goesOn_0 (fun z => k_Pack_goesOn_21 (k_Pack_goesOn_22 (by decide) hq)) (fun z => k_Pack_goesOn_7 (fun z2 => k_Pack_goesOn_21 (k_Pack_goesOn_22 (by decide) hq)) (fun z2 => ?_)))
  exfalso
  have z := Classical.not_not.mp z
  have z2 := Classical.not_not.mp z2
  rcases h5 with h5 | h5
  · rw [h1.2.2.2, h5] at z2
    exact absurd z2 (by decide)
  · rw [h5] at z
    exact absurd z (by decide)
theorem w_Pack_addToData_g {S d : Nat} {Q : pm_Q} {M : pm_M} {P : List Int32} {t : Nat} {D : List Int32} {n : Nat} {b : Int32} (h : uk_g M P t D n) (hy : D.length < 300 → ∀ M', uk_g M' P t (D ++ [b]) n → pm_ag uk_ks M M' → M' 4 = M 4 → Q none M') (hn : 300 ≤ D.length → ∀ M', uk_x M' P → pm_ag uk_ks M M' → (∀ j, j ≠ 3 → M' 4 j = M 4 j) → Q none M') : pm_PC S (d + 2) 62 [.inr (.inr 4), .inl b] M Q := by
  have hb : by_b 5 := Or.inr (Or.inl rfl)
  by_cases hl : D.length < 300
  · refine e_Pack_addToData (k_Pack_addToData_0 (w_Bytes_add hb h.2.2.1 hl (fun M' g1 g2 => k_Pack_addToData_8 (fun _ => k_Pack_addToData_16 (hy hl M' ⟨h.1.keep g2 (by decide) (by decide) (by decide), by rw [g2 4 (by decide)]; exact h.2.1, g1, by rw [g2 4 (by decide)]; exact h.2.2.2⟩ (g2.wd (by decide)) (g2 4 (by decide)))) (fun z => absurd (by decide) z))))
  · exact e_Pack_addToData (k_Pack_addToData_0 (w_Bytes_addF hb h.2.2.1 (by show 300 ≤ _; omega) (k_Pack_addToData_8 (fun z => absurd rfl z) (fun _ => k_Pack_addToData_11 (k_Pack_addToData_16 (hn (by omega) _ h.x (pm_ag.up (by decide)) (fun j hj => pm_up_off (Or.inr hj))))))))
theorem w_Pack_addToData_x {S d : Nat} {Q : pm_Q} {M : pm_M} {P : List Int32} {b : Int32} (h : uk_x M P) (hq : ∀ M', uk_x M' P → pm_ag uk_ks M M' → (∀ j, j ≠ 3 → M' 4 j = M 4 j) → Q none M') : pm_PC S (d + 2) 62 [.inr (.inr 4), .inl b] M Q := by
  have hb : by_b 5 := Or.inr (Or.inl rfl)
  have h0 := h
  obtain ⟨t, o, D, h1, h2, h3, h4, h5⟩ := h
  by_cases hl : D.length < 300
  · refine e_Pack_addToData (k_Pack_addToData_0 (w_Bytes_add hb h2 hl (fun M' g1 g2 => k_Pack_addToData_8 (fun _ => k_Pack_addToData_16 (hq M' ⟨t, o, _, h1.keep g2 (by decide) (by decide) (by decide), g1, h3, ?_, ?_⟩ (g2.wd (by decide)) (fun j _ => by rw [g2 4 (by decide)]))) (fun z => absurd (by decide) z))))
    · rw [g2 4 (by decide)]; exact h4
    · rw [g2 4 (by decide)]; exact h5
  · exact e_Pack_addToData (k_Pack_addToData_0 (w_Bytes_addF hb h2 (by show 300 ≤ _; omega) (k_Pack_addToData_8 (fun z => absurd rfl z) (fun _ => k_Pack_addToData_11 (k_Pack_addToData_16 (hq _ h0.x (pm_ag.up (by decide)) (fun j hj => pm_up_off (Or.inr hj))))))))
