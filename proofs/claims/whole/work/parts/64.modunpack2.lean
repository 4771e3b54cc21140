/-! SevenPassImageModel.unpacked. -/
section MOD
variable {S d : Nat} {Q : pm_Q} {F P : List Int32} {ls : Nat}
abbrev mk_b : Nat := 6000
theorem w_mus_x (hfb : fx_b F) (hfa : fa F = some (P, ls)) {fr : Nat} {l1 l2 l3 : Option pm_V} (hfr : fr < 10000) : ∀ (j i : Nat) (M : pm_M) (x5 : Int32), i + j = 4 → mk_x M F 8000 → (∀ M', mk_a M M' → Q (some (.inl 0)) M') → pm_R S (pm_PC S (d + 3)) Q 148 165 [some (.inr (.inr 19)), l1, l2, l3, some (.inl (nI fr)), some (.inl x5), some (.inl (nI i))] [] M := by
  intro j
  induction j with
  | zero =>
    intro i M x5 hi hx hq
    have e : i = 4 := by omega
    subst e
    obtain ⟨t, D, h1, h2, h3, h4, h5⟩ := hx
    exact k_Mod_unpacked_165 (fun _ => k_Mod_unpacked_194 (fun _ => k_Mod_unpacked_210 (hq M mo_ag.rf)) (fun z => absurd (by rw [h2]; decide) z)) (fun z => absurd (by decide) z)
  | succ j ih =>
    intro i M x5 hi hx hq
    have hx0 := hx
    obtain ⟨t, D, h1, h2, h3, h4, h5⟩ := hx
    refine k_Mod_unpacked_165 (fun z => absurd z (nI_ge (b := 4) (by omega) (by decide))) (fun _ => k_Mod_unpacked_171 ?_)
    rw [nI_add]
    refine w_Mod_packedByte hfb h1 hfa (by omega) (fun _ => k_Mod_unpacked_185 ?_) (fun _ => k_Mod_unpacked_185 ?_)
    · rw [nI_1]
      exact ih (i + 1) M _ (by omega) hx0 hq
    · rw [nI_1]
      exact ih (i + 1) _ _ (by omega) hx0.brk (fun M' a => hq M' ((mo_ag.f (by decide)).tr a))
def mu_s (P : List Int32) (fr : Nat) : Nat → Int32
  | 0 => 0
  | i + 1 => pm_ishl (mu_s P fr i) 8 ||| un_p P (fr + i)
theorem mu_s4 {fr : Nat} (hP : fx_b P) (h : fr + 4 ≤ P.length) : mu_s P fr 4 = by_num P fr := by
  have e : ∀ i, i < P.length → un_p P i = (P[i]?).getD (-1) &&& 255 := by
    intro i hi
    obtain ⟨h1, h2⟩ := un_p_b hP hi
    have : (P[i]?).getD (-1) = nI (fx_n P i) := h1
    rw [this, by_255 ⟨_, h2, rfl⟩]
    exact h1
  show pm_ishl (pm_ishl (pm_ishl (pm_ishl 0 8 ||| un_p P (fr + 0)) 8 ||| un_p P (fr + 1)) 8 ||| un_p P (fr + 2)) 8 ||| un_p P (fr + 3) = _
  rw [e _ (by omega), e _ (by omega), e _ (by omega), e _ (by omega)]
  rfl
theorem w_mus_g (hfb : fx_b F) (hfa : fa F = some (P, ls)) (hP : P.length ≤ 700) {M : pm_M} {t n : Nat} {D : List Int32} {l1 l2 l3 : Option pm_V} (hD : fx_b D) (hg : mk_g M F P t D n) (hy : (t + 7) / 8 + 4 = P.length ∧ by_num P ((t + 7) / 8) = su_l D → ∀ M', mo_d M' D → M' 19 11 = nI n → mk_a M M' → Q (some (.inl 1)) M') (hq : ¬ ((t + 7) / 8 + 4 = P.length ∧ by_num P ((t + 7) / 8) = su_l D) → ∀ M', mk_a M M' → Q (some (.inl 0)) M') : ∀ (j i : Nat), i + j = 4 → (t + 7) / 8 + i ≤ P.length ∨ i = 0 → pm_R S (pm_PC S (d + 3)) Q 148 165 [some (.inr (.inr 19)), l1, l2, l3, some (.inl (nI ((t + 7) / 8))), some (.inl (mu_s P ((t + 7) / 8) i)), some (.inl (nI i))] [] M := by
  have ht8 := hg.2.2.2.1
  have hPb := fa_b hfb hfa
  intro j
  induction j with
  | zero =>
    intro i hi hle
    have e : i = 4 := by omega
    subst e
    have hle : (t + 7) / 8 + 4 ≤ P.length := by omega
    refine k_Mod_unpacked_165 (fun _ => k_Mod_unpacked_194 (fun z => absurd hg.2.1 z) (fun _ => k_Mod_unpacked_201 (w_Mod_sum hg.2.2.2.2.1 hD ?_))) (fun z => absurd (by decide) z)
    rw [mu_s4 hPb.1 hle]
    refine k_Mod_unpacked_207 (fun z => k_Mod_unpacked_212 ?_) (fun z => k_Mod_unpacked_210 (hq (fun w => z w.2) M mo_ag.rf))
    rw [show (4 : Int32) = nI 4 from rfl, nI_add]
    refine w_Mod_packedByte hfb hg.1 hfa (by omega) (fun hlt => ?_) (fun hge => ?_)
    · exact k_Mod_unpacked_220 (fun _ => k_Mod_unpacked_238 (k_Mod_unpacked_239 (by decide) (hq (fun w => by omega) M mo_ag.rf))) (fun z => absurd hg.2.1 z)
    · have a' : mo_ag [16] [] M (pm_up M 19 16 1) := mo_ag.f (by decide)
      refine k_Mod_unpacked_220 (fun z => absurd (by rw [pm_up_hit] at z; exact z) (by decide)) (fun _ => k_Mod_unpacked_229 (fun z => absurd rfl z) (fun _ => k_Mod_unpacked_234 (k_Mod_unpacked_239 (by decide) (hy ⟨by omega, z⟩ _ (hg.2.2.2.2.1.keep a' (by decide) (by decide)) (by rw [a'.2 11 (by decide)]; exact hg.2.2.2.2.2) (mo_ag.f (by decide))))))
  | succ j ih =>
    intro i hi hle
    refine k_Mod_unpacked_165 (fun z => absurd z (nI_ge (b := 4) (by omega) (by decide))) (fun _ => k_Mod_unpacked_171 ?_)
    rw [nI_add]
    refine w_Mod_packedByte hfb hg.1 hfa (by omega) (fun hlt => k_Mod_unpacked_185 ?_) (fun hge => k_Mod_unpacked_185 ?_)
    · rw [nI_1]
      exact ih (i + 1) (by omega) (Or.inl (by omega))
    · rw [nI_1]
      exact w_mus_x hfb hfa (by omega) j (i + 1) _ _ (by omega) (hg.brk.le (by omega)) (fun M' a => hq (fun w => by omega) M' ((mo_ag.f (by decide)).tr a))
theorem w_mub_x {M : pm_M} {l1 l2 l4 l5 l6 : Option pm_V} {x3 : Int32} (hx : mk_x M F 8000) (hq : pm_R S (pm_PC S (d + 6)) Q 148 147 [some (.inr (.inr 19)), l1, l2, some (.inl x3), l4, l5, l6] [] M) : pm_R S (pm_PC S (d + 6)) Q 148 79 [some (.inr (.inr 19)), l1, l2, some (.inl x3), l4, l5, l6] [] M := by
  obtain ⟨t, D, h1, h2, h3, h4, h5⟩ := hx
  exact k_Mod_unpacked_79 (fun _ => hq) (fun _ => k_Mod_unpacked_83 (fun _ => hq) (fun z => absurd (by rw [h2]; decide) z))
theorem w_mu_end_x (hfb : fx_b F) (hfa : fa F = some (P, ls)) {M : pm_M} {l1 l2 l4 l5 l6 : Option pm_V} {x3 : Int32} (hx : mk_x M F 8000) (hq : ∀ M', mk_a M M' → Q (some (.inl 0)) M') : pm_R S (pm_PC S (d + 6)) Q 148 147 [some (.inr (.inr 19)), l1, l2, some (.inl x3), l4, l5, l6] [] M := by
  have hx0 := hx
  obtain ⟨t, D, h1, h2, h3, h4, h5⟩ := hx
  refine k_Mod_unpacked_147 ?_
  rw [h3, show (7 : Int32) = nI 7 from rfl, nI_add, nm_div8 (by omega)]
  exact w_mus_x (d := d + 3) hfb hfa (by omega) 4 0 M 0 (by decide) hx0 hq
theorem w_mub_loop (hfb : fx_b F) (hfa : fa F = some (P, ls)) (hP : P.length ≤ 700) {M0 : pm_M} {l1 : Option pm_V} {x2 : Int32} (hy : ∀ t D n, un_blocks P (8 * P.length + 1) 16 [] 0 = some (t, D, n) → ∀ M' x3 l4 l5 l6, mk_g M' F P t D n → mk_a M0 M' → pm_R S (pm_PC S (d + 6)) Q 148 147 [some (.inr (.inr 19)), l1, some (.inl x2), some (.inl x3), l4, l5, l6] [] M') (hq : un_blocks P (8 * P.length + 1) 16 [] 0 = none → ∀ M', mk_a M0 M' → Q (some (.inl 0)) M') : ∀ (k : Nat) (M : pm_M) (t : Nat) (D : List Int32) (n : Nat) (l4 l5 l6 : Option pm_V), 8 * P.length - t < k → mk_g M F P t D n → mk_a M0 M → un_blocks P k t D n = un_blocks P (8 * P.length + 1) 16 [] 0 → pm_R S (pm_PC S (d + 6)) Q 148 79 [some (.inr (.inr 19)), l1, some (.inl x2), some (.inl 0), l4, l5, l6] [] M := by
  intro k
  induction k with
  | zero => intro M t D n l4 l5 l6 hk; omega
  | succ k ih =>
    intro M t D n l4 l5 l6 hk hg hA he
    unfold un_blocks at he
    have ht8 := hg.2.2.2.1
    -- what follows a block, when broken
    have bad : un_blocks P (8 * P.length + 1) 16 [] 0 = none → ∀ (N : pm_M) (x3 : Int32) (l4 : Option pm_V), mk_x N F 8000 → mk_a M0 N → pm_R S (pm_PC S (d + 6)) Q 148 144 [some (.inr (.inr 19)), l1, some (.inl x2), some (.inl x3), l4, l5, l6] [] N := fun hno N x3 l4 hx aN => k_Mod_unpacked_144 (w_mub_x hx (w_mu_end_x hfb hfa hx (fun M' a => hq hno M' (aN.tr a))))
    -- a form taken while broken
    have formx : un_blocks P (8 * P.length + 1) 16 [] 0 = none → ∀ (N : pm_M) (x3 : Int32) (v : Nat) (l4 : Option pm_V), v < 4 → mk_x N F 7000 → mk_a M0 N → pm_R S (pm_PC S (d + 6)) Q 148 112 [some (.inr (.inr 19)), l1, some (.inl x2), some (.inl x3), l4, l5, l6] [.inl (nI v)] N := by
      intro hno N x3 v l4 hv hx aN
      refine k_Mod_unpacked_112 (fun _ => k_Mod_unpacked_126 (fun _ => k_Mod_unpacked_139 (bad hno _ _ _ (hx.brk.le (by omega)) (aN.tr (mo_ag.f (by decide))))) (fun _ => k_Mod_unpacked_132 (w_Mod_codedBlock_x hx (k_Mod_unpacked_136 (bad hno N _ _ (hx.le (by omega)) aN))))) (fun _ => k_Mod_unpacked_119 (w_Mod_plainBlock_x (d := d + 1) hfb hfa (by omega) hx (fun M' x' a' => k_Mod_unpacked_123 (bad hno M' _ _ (x'.le (by omega)) (aN.tr a')))))
    refine k_Mod_unpacked_79 (fun z => absurd rfl z) (fun _ => k_Mod_unpacked_83 (fun z => absurd hg.2.1 z) (fun _ => k_Mod_unpacked_90 (w_Mod_take (n := 1) (d := d + 2) hfb hfa hP (by decide) hg (fun h1 M1 g1 a1 => ?_) (fun h1 M1 v hv x1 a1 => ?_))))
    · rw [if_pos h1] at he
      have ev : tk_v 1 P t 1 = rd_b P t := by
        show rd_lo P t 0 + rd_b P (t + 0) * 2 ^ 0 = _
        rw [show rd_lo P t 0 = 0 from rfl]
        simp
      rw [ev]
      have hb2 := rd_b_lt P t
      have A1 := hA.tr a1
      have go : ∀ x3, ((x3 = 1 ∧ rd_b P t = 1) ∨ (x3 = 0 ∧ ¬ rd_b P t = 1)) → pm_R S (pm_PC S (d + 6)) Q 148 105 [some (.inr (.inr 19)), l1, some (.inl x2), some (.inl 0), l4, l5, l6] [.inl x3] M1 := by
        intro x3 hx3
        refine k_Mod_unpacked_105 (w_Mod_take (n := 2) (d := d + 2) hfb hfa hP (by decide) g1 (fun h2 M2 g2 a2 => ?_) (fun h2 M2 v hv x2' a2 => ?_))
        · rw [show tk_v 1 P (t + 1) 2 = rd_lo P (t + 1) 2 from rfl]
          have hl2 := rd_lo_lt P (t + 1) 2
          have A2 := A1.tr a2
          -- after a block
          have good : ∀ t' D' n', un_block P (t + 1) D n = some (t', D', n') → ∀ (N : pm_M) (l4 : Option pm_V), mk_g N F P t' D' n' → mk_a M0 N → pm_R S (pm_PC S (d + 6)) Q 148 144 [some (.inr (.inr 19)), l1, some (.inl x2), some (.inl x3), l4, l5, l6] [] N := by
            intro t' D' n' hbl N l4 gN aN
            have hle := (un_block_ge hbl).1
            rw [hbl] at he
            simp only at he
            rcases hx3 with ⟨rfl, hb1⟩ | ⟨rfl, hb0⟩
            · rw [if_pos hb1] at he
              exact k_Mod_unpacked_144 (k_Mod_unpacked_79 (fun _ => hy t' D' n' he.symm N _ _ _ _ gN aN) (fun z => absurd (by decide) z))
            · rw [if_neg hb0] at he
              exact k_Mod_unpacked_144 (ih N t' D' n' _ _ _ (by omega) gN aN he)
          have none' : un_block P (t + 1) D n = none → un_blocks P (8 * P.length + 1) 16 [] 0 = none := fun hbl => by
            rw [hbl] at he
            exact he.symm
          unfold un_block at good none'
          rw [if_pos h2] at good none'
          refine k_Mod_unpacked_112 (fun z => k_Mod_unpacked_126 (fun z2 => k_Mod_unpacked_139 ?_) (fun z2 => k_Mod_unpacked_132 ?_)) (fun z => k_Mod_unpacked_119 ?_)
          · have n0 : ¬ rd_lo P (t + 1) 2 = 0 := fun e => z (by rw [e]; rfl)
            have n1 : ¬ rd_lo P (t + 1) 2 = 1 := fun e => z2 (by rw [e]; rfl)
            rw [if_neg n0, if_neg n1] at none'
            exact bad (none' rfl) _ _ _ (g2.brk.le (by omega)) (A2.tr (mo_ag.f (by decide)))
          · have n0 : ¬ rd_lo P (t + 1) 2 = 0 := fun e => z (by rw [e]; rfl)
            have n1 : rd_lo P (t + 1) 2 = 1 := (nI_eq (b := 1) (by omega) (by decide)).mp (Classical.not_not.mp z2)
            rw [if_neg n0, if_pos n1] at good none'
            exact w_Mod_codedBlock hfb hfa hP g2 (fun t' D' n' hc M3 g3 a3 => k_Mod_unpacked_136 (good t' D' n' hc M3 _ g3 (A2.tr a3))) (fun hc M3 x3 a3 => k_Mod_unpacked_136 (bad (none' hc) M3 _ _ (x3.le (by omega)) (A2.tr a3)))
          · have n0 : rd_lo P (t + 1) 2 = 0 := (nI_eq (b := 0) (by omega) (by decide)).mp (Classical.not_not.mp z)
            rw [if_pos n0] at good none'
            refine w_Mod_plainBlock (d := d + 1) hfb hfa hP g2 (fun t' D' hc M3 g3 a3 => k_Mod_unpacked_123 (good t' D' n ?_ M3 _ g3 (A2.tr a3))) (fun hc M3 x3 a3 => k_Mod_unpacked_123 (bad (none' ?_) M3 _ _ (x3.le (by omega)) (A2.tr a3)))
            · rw [hc]
            · rw [hc]
        · have hno : un_blocks P (8 * P.length + 1) 16 [] 0 = none := by
            unfold un_block at he
            rw [if_neg (by omega)] at he
            exact he.symm
          exact formx hno M2 x3 v _ (by omega) (x2'.le (by omega)) (A1.tr a2)
      refine k_Mod_unpacked_96 (fun z => k_Mod_unpacked_104 (go 0 (Or.inr ⟨rfl, fun e => z (by rw [e]; rfl)⟩))) (fun z => k_Mod_unpacked_100 (go 1 (Or.inl ⟨rfl, (nI_eq (b := 1) (by omega) (by decide)).mp (Classical.not_not.mp z)⟩)))
    · rw [if_neg (by omega)] at he
      have hno := he.symm
      have A1 := hA.tr a1
      have go : ∀ x3 : Int32, pm_R S (pm_PC S (d + 6)) Q 148 105 [some (.inr (.inr 19)), l1, some (.inl x2), some (.inl 0), l4, l5, l6] [.inl x3] M1 := by
        intro x3
        exact k_Mod_unpacked_105 (w_Mod_take_x (n := 2) (d := d + 2) hfb hfa (by decide) (by omega) x1 (fun M2 v hv x2 a2 => formx hno M2 x3 v _ (by omega) (x2.le (by omega)) (A1.tr a2)))
      exact k_Mod_unpacked_96 (fun _ => k_Mod_unpacked_104 (go 0)) (fun _ => k_Mod_unpacked_100 (go 1))
theorem w_Mod_unpacked (hfb : fx_b F) (hfa : fa F = some (P, ls)) {M : pm_M} (hF : mo_f M F) (hy : ∀ D n, un_all P = some (D, n) → ∀ M', mo_d M' D → M' 19 11 = nI n → mk_a M M' → Q (some (.inl 1)) M') (hn : un_all P = none → ∀ M', mk_a M M' → Q (some (.inl 0)) M') : pm_PC S (d + 7) 148 [.inr (.inr 19)] M Q := by
  have hPb := fa_b hfb hfa
  have h700 := hF.2.1
  have hP : P.length ≤ 700 := by omega
  refine e_Mod_unpacked (k_Mod_unpacked_0 ?_)
  generalize hM1 : pm_up (pm_up (pm_up M 19 16 0) 19 12 0) 19 11 0 = M1
  have a1 : mk_a M M1 := by rw [← hM1]; exact ((mo_ag.f (by decide)).tr (mo_ag.f (by decide))).tr (mo_ag.f (by decide))
  have f1 := hF.keep a1 (by decide) (by decide)
  have e16 : M1 19 16 = 0 := by rw [← hM1, pm_up_off (Or.inr (by decide)), pm_up_off (Or.inr (by decide)), pm_up_hit]
  have e11 : M1 19 11 = 0 := by rw [← hM1, pm_up_hit]
  have d1 : mo_d M1 [] := ⟨by rw [← hM1, pm_up_off (Or.inr (by decide)), pm_up_hit]; rfl, Nat.zero_le _, fun i x hx => by cases hx⟩
  have brk : ∀ (N : pm_M) (x1 : Int32) (y : Int32) (l2 l3 l4 l5 l6 : Option pm_V), ¬ un_st P → N 19 16 = 1 → mk_a M N → pm_R S (pm_PC S (d + 6)) Q 148 26 [some (.inr (.inr 19)), some (.inl x1), l2, l3, l4, l5, l6] [.inl y] N := by
    intro N x1 y l2 l3 l4 l5 l6 hst e aN
    refine k_Mod_unpacked_26 (fun _ => k_Mod_unpacked_69 (hn ?_ N aN)) (fun z => absurd (by rw [e]; decide) z)
    unfold un_all
    rw [if_neg hst]
  refine w_Mod_packedByte (k := 0) (d := d + 3) hfb f1 hfa (by decide) (fun h0 => k_Mod_unpacked_20 ?_) (fun h0 => k_Mod_unpacked_20 ?_)
  · refine w_Mod_packedByte (k := 1) (d := d + 3) hfb f1 hfa (by decide) (fun h1 => ?_) (fun h1 => brk _ _ _ _ _ _ _ _ (fun q => by have := q.1; omega) pm_up_hit (a1.tr (mo_ag.f (by decide))))
    obtain ⟨p0, b0⟩ := un_p_b hPb.1 h0
    have no : ¬ un_st P → ∀ (N : pm_M) l1 l2 l3 l4 l5 l6, mk_a M N → pm_R S (pm_PC S (d + 6)) Q 148 69 [some (.inr (.inr 19)), l1, l2, l3, l4, l5, l6] [] N := fun hst N l1 l2 l3 l4 l5 l6 aN => k_Mod_unpacked_69 (hn (by unfold un_all; rw [if_neg hst]) N aN)
    have c127 : 127 < un_p P 0 ↔ 128 ≤ un_p P 0 := by
      rw [p0, show (127 : Int32) = nI 127 from rfl, show (128 : Int32) = nI 128 from rfl, nI_ltI (by decide) (by omega), nI_leI (by decide) (by omega)]
      omega
    refine k_Mod_unpacked_26 (fun z => absurd e16 z) (fun _ => k_Mod_unpacked_34 (fun z => no (fun q => z q.2.1) _ _ _ _ _ _ _ a1) (fun z1 => k_Mod_unpacked_43 (fun z => no (fun q => q.2.2.1 (c127.mp z)) _ _ _ _ _ _ _ a1) (fun z2 => k_Mod_unpacked_49 (fun z => no (fun q => z q.2.2.2.1) _ _ _ _ _ _ _ a1) (fun z3 => k_Mod_unpacked_62 (fun z4 => k_Mod_unpacked_71 ?_) (fun z => no (fun q => z q.2.2.2.2) _ _ _ _ _ _ _ a1)))))
    have hst : un_st P := ⟨by omega, Classical.not_not.mp z1, fun q => z2 (c127.mpr q), Classical.not_not.mp z3, z4⟩
    unfold un_all at hy hn
    rw [if_pos hst] at hy hn
    have a2' : mo_ag [17] [] M1 (pm_up M1 19 17 16) := mo_ag.f (by decide)
    have a2 : mk_a M (pm_up M1 19 17 16) := a1.tr (mo_ag.f (by decide))
    have g2 : mk_g (pm_up M1 19 17 16) F P 16 [] 0 := ⟨f1.keep a2' (by decide) (by decide), by rw [a2'.2 16 (by decide)]; exact e16, pm_up_hit, by omega, d1.keep a2' (by decide) (by decide), by rw [a2'.2 11 (by decide)]; exact e11⟩
    refine w_mub_loop hfb hfa hP (M0 := M) (fun t D n hbl M3 x3 l4 l5 l6 g3 a3 => k_Mod_unpacked_147 ?_) (fun hbl M3 a3 => hn (by rw [hbl]) M3 a3) (8 * P.length + 1) _ 16 [] 0 _ _ _ (by omega) g2 a2 rfl
    have ht8 := g3.2.2.2.1
    have hDb := un_blocks_b _ _ _ _ _ _ _ hbl fx_nil
    rw [hbl] at hy hn
    simp only at hy hn
    rw [g3.2.2.1, show (7 : Int32) = nI 7 from rfl, nI_add, nm_div8 (by omega)]
    refine w_mus_g (d := d + 3) hfb hfa hP hDb g3 (fun hc M4 d4 c4 a4 => ?_) (fun hc M4 a4 => ?_) 4 0 (by decide) (Or.inr rfl)
    · rw [if_pos hc] at hy
      exact hy D n rfl M4 d4 c4 (a3.tr a4)
    · rw [if_neg hc] at hn
      exact hn rfl M4 (a3.tr a4)
  · have hst : ¬ un_st P := fun q => by have := q.1; omega
    have a2 : mk_a M (pm_up M1 19 16 1) := a1.tr (mo_ag.f (by decide))
    have f2 := hF.keep a2 (by decide) (by decide)
    exact w_Mod_packedByte (k := 1) (d := d + 3) hfb f2 hfa (by decide) (fun h1 => brk _ _ _ _ _ _ _ _ hst pm_up_hit a2) (fun h1 => brk _ _ _ _ _ _ _ _ hst pm_up_hit (a2.tr (mo_ag.f (by decide))))
end MOD
