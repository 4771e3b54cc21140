/-! SevenPassImageModel: header, the packed bytes. -/
theorem fa_go_end {F : List Int32} : ∀ (n k : Nat) (de : Option Nat) (P : List Int32) (ls : Nat) (P' : List Int32) (ls' : Nat), fa_go F n k de P ls = some (P', ls') → ls + 12 ≤ F.length → ls' + 12 ≤ F.length
  | 0, _, _, _, _, _, _, h, _ => by cases h
  | n + 1, k, de, P, ls, P', ls', h, hl => by
    unfold fa_go at h
    split at h
    · split at h
      · cases h
      · cases h; exact hl
    · split at h
      · cases h
      · rename_i e he
        have := fx_end_ok he
        split at h
        · split at h
          · split at h
            · exact fa_go_end n _ _ _ _ _ _ h (by omega)
            · cases h
          · exact fa_go_end n _ _ _ _ _ _ h (by omega)
        · cases h
theorem fa_len {F P : List Int32} {ls : Nat} (h : fa F = some (P, ls)) : 20 + fx_m F 8 ≤ F.length ∧ ls + 12 ≤ F.length := by
  unfold fa at h
  split at h
  · unfold fa_go at h
    split at h
    · split at h
      · cases h
      · rename_i h2
        exact absurd rfl h2
    · split at h
      · cases h
      · rename_i e he
        have := fx_end_ok he
        refine ⟨by omega, ?_⟩
        split at h
        · split at h
          · split at h
            · exact fa_go_end _ _ _ _ _ _ _ h (by omega)
            · cases h
          · exact fa_go_end _ _ _ _ _ _ _ h (by omega)
        · cases h
  · cases h
section MOD
variable {S d : Nat} {Q : pm_Q} {F : List Int32}
theorem un_p_b (hb : fx_b F) {i : Nat} (hi : i < F.length) : un_p F i = nI (fx_n F i) ∧ fx_n F i < 256 := by
  obtain ⟨h1, h2⟩ := hb.at hi
  refine ⟨?_, h2⟩
  unfold un_p
  rw [h1]
  rfl
theorem w_Mod_header {M : pm_M} {ls : Nat} (hb : fx_b F) (hF : mo_f M F) (h18 : M 19 18 = nI ls) (hl : 20 + fx_m F 8 ≤ F.length ∧ ls + 12 ≤ F.length) (hy : fa_hd F ls → ∀ M', M' 19 19 = un_p F 25 → M' 19 20 = un_p F 24 → M' 19 21 = by_num F 16 → M' 19 22 = by_num F 20 → M' 19 23 = rd_7 F → mo_ag [19, 20, 21, 22, 23] [] M M' → Q (some (.inl 1)) M') (hn : ¬ fa_hd F ls → ∀ M', mo_ag [19, 20, 21, 22, 23] [] M M' → Q (some (.inl 0)) M') : pm_PC S (d + 3) 140 [.inr (.inr 19)] M Q := by
  have h700 := hF.2.1
  have m8 := fx_m_lt hb (i := 8) (by omega)
  have ml := fx_m_lt hb (i := ls) (by omega)
  have m16 := fx_m_lt hb (i := 16) (by omega)
  obtain ⟨n8, -⟩ := fx_num hb (i := 8) (by omega)
  obtain ⟨nl, -⟩ := fx_num hb (i := ls) (by omega)
  obtain ⟨n16, -⟩ := fx_num hb (i := 16) (by omega)
  have hin : ∀ n : Nat, n < 700 → vp_in (nI n) 700 := fun n hn => vp_in_nI hn (by decide)
  have c13 : ∀ m : Nat, m < 2 ^ 32 → ((lg_cmp (Int64.ofNat m) 13) = 0 ↔ m = 13) := fun m hm => by rw [lg_cmp_eq, show (13 : Int64) = Int64.ofNat 13 from rfl, i64_eq (by omega) (by decide)]
  have c0 : ∀ m : Nat, m < 2 ^ 32 → ((lg_cmp (Int64.ofNat m) 0) = 0 ↔ m = 0) := fun m hm => by rw [lg_cmp_eq, show (0 : Int64) = Int64.ofNat 0 from rfl, i64_eq (by omega) (by decide)]
  have c8 : ∀ m : Nat, m < 2 ^ 32 → ((lg_cmp (Int64.ofNat m) 8) ≤ 0 ↔ m ≤ 8) := fun m hm => by rw [lg_cmp_le, show (8 : Int64) = Int64.ofNat 8 from rfl, i64_le (by omega) (by decide)]
  have c8g : ∀ m : Nat, m < 2 ^ 32 → (0 < (lg_cmp (Int64.ofNat m) 8) ↔ ¬ m ≤ 8) := fun m hm => by rw [← c8 m hm, Int32.not_le]
  have big : ∀ m : Nat, m < 2 ^ 32 → ¬ m ≤ 8 → nI m < 1 ∨ 8 < nI m := by
    intro m hm h
    by_cases h2 : m < 2 ^ 31
    · refine Or.inr ?_
      rw [show (8 : Int32) = nI 8 from rfl, nI_ltI (by decide) h2]
      omega
    · exact Or.inl (Int32.lt_trans (nI_neg (by omega) hm) (by decide))
  refine e_Mod_header (k_Mod_header_0 (w_Mod_number (i := 8) hF hb (by omega) (k_Mod_header_6 (fun z => k_Mod_header_52 (hn (fun q => z ?_) M mo_ag.rf)) (fun z1 => k_Mod_header_13 ?_))))
  · rw [c13 _ m8]
    have q := q.1
    rw [n8, show (13 : Int32) = nI 13 from rfl, nI_eq32 m8 (by decide)] at q
    exact q
  · have z1 := (c13 _ m8).mp (Classical.not_not.mp z1)
    rw [h18]
    have m20 := fx_m_lt hb (i := 20) (by omega)
    obtain ⟨n20, -⟩ := fx_num hb (i := 20) (by omega)
    refine w_Mod_number hF hb (by omega) (k_Mod_header_21 (fun z => k_Mod_header_52 (hn (fun q => z ?_) M mo_ag.rf)) (fun z2 => k_Mod_header_26 (w_Mod_number (i := 16) hF hb (by omega) (k_Mod_header_32 (fun z => k_Mod_header_52 (hn (fun q => ?_) M mo_ag.rf)) (fun z3 => k_Mod_header_39 (w_Mod_number (i := 20) hF hb (by omega) (k_Mod_header_45 (fun z4 => k_Mod_header_54 ?_) (fun z => k_Mod_header_52 (hn (fun q => ?_) M mo_ag.rf)))))))))
    · rw [c0 _ ml]
      have q := q.2.1
      rw [nl, show (0 : Int32) = nI 0 from rfl, nI_eq32 ml (by decide)] at q
      exact q
    · have q := q.2.2.1
      rw [n16] at q
      exact (big _ m16 ((c8g _ m16).mp z)).elim q.2.1 q.2.2.1
    · have z2 := (c0 _ ml).mp (Classical.not_not.mp z2)
      refine w_Mod_number (i := 16) hF hb (by omega) (k_Mod_header_61 ?_)
      rw [Int64.toInt32_ofNat']
      have a1 : mo_ag [19, 20, 21, 22, 23] [] M (pm_up M 19 21 (Int32.ofNat (fx_m F 16))) := mo_ag.f (by decide)
      have F1 := hF.keep a1 (by decide) (by decide)
      refine w_Mod_number (i := 20) F1 hb (by omega) ?_
      generalize hM1 : pm_up M 19 21 (Int32.ofNat (fx_m F 16)) = M1 at a1 F1
      have g21 : M1 19 21 = by_num F 16 := by rw [← hM1, pm_up_hit, n16]; rfl
      obtain ⟨p24, b24⟩ := un_p_b hb (i := 24) (by omega)
      obtain ⟨p25, b25⟩ := un_p_b hb (i := 25) (by omega)
      obtain ⟨p26, b26⟩ := un_p_b hb (i := 26) (by omega)
      obtain ⟨p27, b27⟩ := un_p_b hb (i := 27) (by omega)
      obtain ⟨p28, b28⟩ := un_p_b hb (i := 28) (by omega)
      have f24 : M1 22 ((24 : Int32).toNatClampNeg) = un_p F 24 := F1.at (i := 24) (by omega)
      have f25 : M1 22 ((25 : Int32).toNatClampNeg) = un_p F 25 := F1.at (i := 25) (by omega)
      have f28 : M1 22 ((28 : Int32).toNatClampNeg) = un_p F 28 := F1.at (i := 28) (by omega)
      have tail : ∀ y, y = rd_7 F → pm_R S (pm_PC S (d + 2)) Q 140 115 [some (.inr (.inr 19))] [.inl y, .inr (.inr 19)] (pm_up (pm_up (pm_up M1 19 22 (Int64.ofNat (fx_m F 20)).toInt32) 19 20 (un_p F 24)) 19 19 (un_p F 25)) := by
        rintro y rfl
        refine k_Mod_header_115 (by unfold rd_7; split; exact Or.inr rfl; exact Or.inl rfl) ?_
        rw [Int64.toInt32_ofNat']
        generalize hM2 : pm_up (pm_up (pm_up (pm_up M1 19 22 (Int32.ofNat (fx_m F 20))) 19 20 (un_p F 24)) 19 19 (un_p F 25)) 19 23 (rd_7 F) = M2
        have A2 : mo_ag [19, 20, 21, 22, 23] [] M M2 := by
          rw [← hM2]
          exact (((a1.tr (mo_ag.f (by decide))).tr (mo_ag.f (by decide))).tr (mo_ag.f (by decide))).tr (mo_ag.f (by decide))
        have F2 := hF.keep A2 (by decide) (by decide)
        have q19 : M2 19 19 = un_p F 25 := by rw [← hM2, pm_up_off (Or.inr (by decide)), pm_up_hit]
        have q20 : M2 19 20 = un_p F 24 := by rw [← hM2, pm_up_off (Or.inr (by decide)), pm_up_off (Or.inr (by decide)), pm_up_hit]
        have q22 : M2 19 22 = by_num F 20 := by rw [← hM2, pm_up_off (Or.inr (by decide)), pm_up_off (Or.inr (by decide)), pm_up_off (Or.inr (by decide)), pm_up_hit, n20]; rfl
        have q21 : M2 19 21 = by_num F 16 := by rw [← hM2, pm_up_off (Or.inr (by decide)), pm_up_off (Or.inr (by decide)), pm_up_off (Or.inr (by decide)), pm_up_off (Or.inr (by decide))]; exact g21
        have q23 : M2 19 23 = rd_7 F := by rw [← hM2, pm_up_hit]
        have r19 : (pm_up (pm_up (pm_up M1 19 22 (Int32.ofNat (fx_m F 20))) 19 20 (un_p F 24)) 19 19 (un_p F 25)) 19 19 = un_p F 25 := pm_up_hit
        have r20 : (pm_up (pm_up (pm_up M1 19 22 (Int32.ofNat (fx_m F 20))) 19 20 (un_p F 24)) 19 19 (un_p F 25)) 19 20 = un_p F 24 := by rw [pm_up_off (Or.inr (by decide)), pm_up_hit]
        have r21 : (pm_up (pm_up (pm_up M1 19 22 (Int32.ofNat (fx_m F 20))) 19 20 (un_p F 24)) 19 19 (un_p F 25)) 19 21 = by_num F 16 := by rw [pm_up_off (Or.inr (by decide)), pm_up_off (Or.inr (by decide)), pm_up_off (Or.inr (by decide))]; exact g21
        have r22 : (pm_up (pm_up (pm_up M1 19 22 (Int32.ofNat (fx_m F 20))) 19 20 (un_p F 24)) 19 19 (un_p F 25)) 19 22 = by_num F 20 := by rw [pm_up_off (Or.inr (by decide)), pm_up_off (Or.inr (by decide)), pm_up_hit, n20]; rfl
        rw [r19, r20, r21, r22]
        have f26 : M2 22 ((26 : Int32).toNatClampNeg) = un_p F 26 := F2.at (i := 26) (by omega)
        have f27 : M2 22 ((27 : Int32).toNatClampNeg) = un_p F 27 := F2.at (i := 27) (by omega)
        have f28' : M2 22 ((28 : Int32).toNatClampNeg) = un_p F 28 := F2.at (i := 28) (by omega)
        have no : ¬ fa_hd F ls → pm_R S (pm_PC S (d + 2)) Q 140 175 [some (.inr (.inr 19))] [] M2 := fun h => k_Mod_header_175 (k_Mod_header_176 (by decide) (hn h M2 A2))
        refine w_Mod_isPicture (fun hv => k_Mod_header_137 (fun z => absurd z (by decide)) (fun _ => k_Mod_header_140 (hin 26 (by decide)) (fun z => no (fun q => z (by rw [f26]; exact q.2.2.2.1))) (fun z5 => k_Mod_header_150 (hin 27 (by decide)) (fun z => no (fun q => z (by rw [f27]; exact q.2.2.2.2.1))) (fun z6 => k_Mod_header_160 (hin 28 (by decide)) (fun z => no (fun q => ?_)) (fun z7 => k_Mod_header_171 (k_Mod_header_176 (by decide) (hy ⟨?_, ?_, hv, ?_, ?_, ?_⟩ M2 q19 q20 q21 q22 q23 A2))))))) (fun hv => k_Mod_header_137 (fun _ => no (fun q => hv q.2.2.1)) (fun z => absurd rfl z))
        · have q := q.2.2.2.2.2
          rw [f28', p28, show (2 : Int32) = nI 2 from rfl, nI_leI (by decide) (by omega)] at z
          rw [p28, show (1 : Int32) = nI 1 from rfl, nI_leI (by omega) (by decide)] at q
          omega
        · rw [n8, z1]; rfl
        · rw [nl, z2]; rfl
        · rw [← f26]; exact Classical.not_not.mp z5
        · rw [← f27]; exact Classical.not_not.mp z6
        · rw [f28', p28, show (2 : Int32) = nI 2 from rfl, nI_leI (by decide) (by omega)] at z7
          rw [p28, show (1 : Int32) = nI 1 from rfl, nI_leI (by omega) (by decide)]
          omega
      refine k_Mod_header_72 (hin 24 (by decide)) (hin 25 (by decide)) (hin 28 (by decide)) (fun z => k_Mod_header_114 ?_) (fun z => k_Mod_header_110 ?_)
      · rw [f24, f25]
        rw [f28] at z
        exact tail 0 (by rw [rd_7, if_neg z])
      · rw [f24, f25]
        rw [f28] at z
        exact tail 1 (by rw [rd_7, if_pos (Classical.not_not.mp z)])
    · have q := q.2.2.1
      rw [n20] at q
      exact (big _ m20 (fun t => z ((c8 _ m20).mpr t))).elim q.2.2.2.1 q.2.2.2.2
theorem fa_go_pre : ∀ (n k : Nat) (de : Option Nat) (P : List Int32) (ls : Nat) (P' : List Int32) (ls' : Nat), fa_go F n k de P ls = some (P', ls') → ∃ R, P' = P ++ R
  | 0, _, _, _, _, _, _, h => by cases h
  | n + 1, k, de, P, ls, P', ls', h => by
    unfold fa_go at h
    split at h
    · split at h
      · cases h
      · cases h; exact ⟨[], (List.append_nil P).symm⟩
    · split at h
      · cases h
      · split at h
        · split at h
          · split at h
            · obtain ⟨R, e⟩ := fa_go_pre n _ _ _ _ _ _ h
              exact ⟨_, by rw [e, List.append_assoc]⟩
            · cases h
          · exact fa_go_pre n _ _ _ _ _ _ h
        · cases h
theorem w_pB_loop {M : pm_M} {P : List Int32} {ls' k : Nat} (hb : fx_b F) (hF : mo_f M F) (hk : k < 2 ^ 20) (hy : k < P.length → Q (some (.inl (un_p P k))) M) (hn : P.length ≤ k → Q (some (.inl 0)) (pm_up M 19 16 1)) : ∀ (n c : Nat) (de : Option Nat) (P0 : List Int32) (ls : Nat) (l4 : Option pm_V), fa_go F n c de P0 ls = some (P, ls') → P0.length ≤ k → c ≤ F.length → pm_R S (pm_PC S (d + 2)) Q 141 5 [some (.inr (.inr 19)), some (.inl (nI k)), some (.inl (nI (k - P0.length))), some (.inl (nI c)), l4] [] M := by
  have h700 := hF.2.1
  intro n
  induction n with
  | zero => intro c de P0 ls l4 hg; cases hg
  | succ n ih =>
    intro c de P0 ls l4 hg hP0 hc
    unfold fa_go at hg
    by_cases hcl : F.length ≤ c
    · rw [if_pos hcl] at hg
      split at hg
      · cases hg
      · cases hg
        exact k_Mod_packedByte_5 (fun _ => k_Mod_packedByte_61 (hn hP0)) (fun z => absurd (by rw [hF.1]; exact nI_le hcl (by omega)) z)
    · rw [if_neg hcl] at hg
      cases he : fx_end F c with
      | none =>
        rw [he] at hg
        cases hg
      | some e =>
        rw [he] at hg
        simp only at hg
        obtain ⟨o1, o2, o3⟩ := fx_end_ok he
        split at hg
        · rename_i hcm
          have hm : fx_m F c = e - 12 - c := by omega
          have nxt : ∀ {P1 : List Int32} {l4 : Option pm_V}, (∀ l4, pm_R S (pm_PC S (d + 2)) Q 141 5 [some (.inr (.inr 19)), some (.inl (nI k)), some (.inl (nI (k - P1.length))), some (.inl (nI e)), l4] [] M) → pm_R S (pm_PC S (d + 2)) Q 141 52 [some (.inr (.inr 19)), some (.inl (nI k)), some (.inl (nI (k - P1.length))), some (.inl (nI c)), l4] [] M := by
            intro P1 l4 h
            refine k_Mod_packedByte_52 (w_Mod_chunkEnd hF hb (fun i e' ei he' => ?_) (fun hno => ?_))
            · have ei := (nI_eq (by omega) (by
                have := fx_end_ok he'
                omega)).mp ei
              subst ei
              rw [he] at he'
              cases he'
              exact k_Mod_packedByte_57 (h _)
            · have := hno c (by omega) rfl
              rw [he] at this
              cases this
          refine k_Mod_packedByte_5 (fun z => absurd (by rw [hF.1] at z; exact z) (nI_ge (by omega) (by omega))) (fun _ => k_Mod_packedByte_13 (w_Mod_number hF hb (by omega) (k_Mod_packedByte_18 ?_)))
          rw [Int64.toInt32_ofNat']
          refine w_Mod_isData hF hb (by omega) (fun hD => k_Mod_packedByte_26 (fun z => absurd z (by decide)) (fun _ => ?_)) (fun hD => k_Mod_packedByte_26 (fun _ => ?_) (fun z => absurd rfl z))
          · rw [if_pos hD] at hg
            split at hg
            · have hsl : (by_sl F (c + 8) (e - 4 - (c + 8))).length = fx_m F c := by
                unfold by_sl
                rw [List.length_take, List.length_drop]
                omega
              refine k_Mod_packedByte_29 (fun z => k_Mod_packedByte_47 ?_) (fun z => ?_)
              · rw [show Int32.ofNat (fx_m F c) = nI (fx_m F c) from rfl, nI_leI (by omega) (by omega)] at z
                rw [show Int32.ofNat (fx_m F c) = nI (fx_m F c) from rfl, pk_sub z]
                have hlen : (P0 ++ by_sl F (c + 8) (e - 4 - (c + 8))).length = P0.length + fx_m F c := by rw [List.length_append, hsl]
                have e1 : k - P0.length - fx_m F c = k - (P0 ++ by_sl F (c + 8) (e - 4 - (c + 8))).length := by rw [hlen]; omega
                rw [e1]
                exact nxt (fun l4 => ih e _ _ _ l4 hg (by rw [hlen]; omega) o2)
              · rw [show Int32.ofNat (fx_m F c) = nI (fx_m F c) from rfl, nI_leI (by omega) (by omega)] at z
                have eix : nI c + 8 + nI (k - P0.length) = nI (c + 8 + (k - P0.length)) := by rw [show (8 : Int32) = nI 8 from rfl, nI_add, nI_add]
                refine k_Mod_packedByte_35 (by rw [eix]; exact vp_in_nI (by omega) (by decide)) ?_
                rw [eix, nI_clamp (by omega), hF.at (by omega)]
                obtain ⟨R, eR⟩ := fa_go_pre _ _ _ _ _ _ _ hg
                have hkP : k < P.length := by
                  rw [eR, List.length_append, List.length_append, hsl]
                  omega
                have hv : un_p P k = (F[c + 8 + (k - P0.length)]?).getD (-1) := by
                  unfold un_p
                  rw [eR, List.getElem?_append_left (by rw [List.length_append, hsl]; omega), List.getElem?_append_right hP0]
                  unfold by_sl
                  rw [List.getElem?_take, if_pos (by omega), List.getElem?_drop]
                rw [← hv]
                exact hy hkP
            · cases hg
          · rw [if_neg hD] at hg
            exact nxt (fun l4 => ih e _ _ _ l4 hg hP0 o2)
        · cases hg
theorem w_Mod_packedByte {M : pm_M} {P : List Int32} {ls k : Nat} (hb : fx_b F) (hF : mo_f M F) (hfa : fa F = some (P, ls)) (hk : k < 2 ^ 20) (hy : k < P.length → Q (some (.inl (un_p P k))) M) (hn : P.length ≤ k → Q (some (.inl 0)) (pm_up M 19 16 1)) : pm_PC S (d + 3) 141 [.inr (.inr 19), .inl (nI k)] M Q := by
  unfold fa at hfa
  split at hfa
  · rename_i hs
    exact e_Mod_packedByte (k_Mod_packedByte_0 (w_pB_loop hb hF hk hy hn (F.length + 1) 8 none [] 0 _ hfa (Nat.zero_le _) (fa_sg8 hs)))
  · cases hfa
end MOD
