/-! SevenPassImageModel: copies and blocks are taken. -/
section MOD
variable {S d : Nat} {Q : pm_Q} {F P : List Int32} {ls : Nat}
theorem w_mcl_x {M : pm_M} {B : Nat} {l1 l3 : Option pm_V} {x2 x4 x5 : Int32} (hx : mk_x M F B) (hq : Q none M) : pm_R S (pm_PC S d) Q 145 78 [some (.inr (.inr 19)), l1, some (.inl x2), l3, some (.inl x4), some (.inl x5)] [] M := by
  obtain ⟨t, D, h1, h2, h3, h4, h5⟩ := hx
  exact k_Mod_takeCopy_78 (fun _ => k_Mod_takeCopy_113 hq) (fun _ => k_Mod_takeCopy_84 (fun _ => k_Mod_takeCopy_113 hq) (fun z => absurd (by rw [h2]; decide) z))
theorem w_mcl_g {t n dist len : Nat} {l1 l3 : Option pm_V} (hd : 1 ≤ dist) (hlen : len < 2 ^ 20) : ∀ (k i : Nat) (M : pm_M) (D : List Int32), i + k = len → dist ≤ D.length → mk_g M F P t D n → (D.length + k ≤ 300 → ∀ M', mk_g M' F P t (un_cp dist k D) n → mk_a M M' → Q none M') → (300 < D.length + k → ∀ M', mk_x M' F (8 * P.length) → mk_a M M' → Q none M') → pm_R S (pm_PC S (d + 1)) Q 145 78 [some (.inr (.inr 19)), l1, some (.inl (nI len)), l3, some (.inl (nI dist)), some (.inl (nI i))] [] M := by
  intro k
  induction k with
  | zero =>
    intro i M D hi hD hg hy hq
    have e : i = len := by omega
    subst e
    exact k_Mod_takeCopy_78 (fun _ => k_Mod_takeCopy_113 (hy hg.2.2.2.2.1.2.1 M hg mo_ag.rf)) (fun z => absurd (nI_le (Nat.le_refl _) (by omega)) z)
  | succ k ih =>
    intro i M D hi hD hg hy hq
    have h300 := hg.2.2.2.2.1.2.1
    have eix : M 19 12 - nI dist = nI (D.length - dist) := by rw [hg.2.2.2.2.1.1, pk_sub hD]
    refine k_Mod_takeCopy_78 (fun z => absurd z (nI_ge (by omega) (by omega))) (fun _ => k_Mod_takeCopy_84 (fun z => absurd hg.2.1 z) (fun _ => k_Mod_takeCopy_91 (by rw [eix]; exact vp_in_nI (by omega) (by decide)) ?_))
    rw [eix, nI_clamp (by omega), hg.2.2.2.2.1.at (by omega)]
    refine w_Mod_give hg (fun hlt M1 g1 a1 => k_Mod_takeCopy_107 ?_) (fun he M1 x1 a1 => k_Mod_takeCopy_107 ?_)
    · rw [nI_1]
      refine ih (i + 1) M1 _ (by omega) (by simp; omega) g1 (fun hc M' q1 q2 => hy (by simp at hc; omega) M' q1 (a1.tr q2)) (fun hc M' q1 q2 => hq (by simp at hc; omega) M' q1 (a1.tr q2))
    · exact w_mcl_x x1 (hq (by omega) M1 x1 a1)
theorem w_mcp_x47 (hfb : fx_b F) (hfa : fa F = some (P, ls)) {M : pm_M} {B : Nat} {l1 l4 l5 : Option pm_V} {x2 x3 y0 y1 : Int32} (hx : mk_x M F B) (hq : ∀ M', mk_x M' F B → mk_a M M' → Q none M') : pm_R S (pm_PC S d) Q 145 47 [some (.inr (.inr 19)), l1, some (.inl x2), some (.inl x3), l4, l5] [.inl y0, .inl y1] M := by
  refine k_Mod_takeCopy_47 (fun _ => k_Mod_takeCopy_65 ?_) (fun _ => k_Mod_takeCopy_59 (hq _ hx.brk (mo_ag.f (by decide))))
  have hx2 : mk_x (pm_up M 19 11 (M 19 11 + 1)) F B := by
    obtain ⟨t, D, h1, h2, h3, h4, h5⟩ := hx
    have a : mo_ag [11] [] M (pm_up M 19 11 (M 19 11 + 1)) := mo_ag.f (by decide)
    exact ⟨t, D, h1.keep a (by decide) (by decide), by rw [a.2 16 (by decide)]; exact h2, by rw [a.2 17 (by decide)]; exact h3, h4, h5.keep a (by decide) (by decide)⟩
  exact w_mcl_x hx2 (hq _ hx2 (mo_ag.f (by decide)))
theorem w_mcp_x21 (hfb : fx_b F) (hfa : fa F = some (P, ls)) {M : pm_M} {B v : Nat} {l1 l3 l4 l5 : Option pm_V} {x2 : Int32} (hv : v < 32) (hB : B < 2 ^ 19) (hx : mk_x M F B) (hq : ∀ M', mk_x M' F (B + 13) → mk_a M M' → Q none M') : pm_R S (pm_PC S (d + 4)) Q 145 21 [some (.inr (.inr 19)), l1, some (.inl x2), l3, l4, l5] [.inl (nI v)] M := by
  refine k_Mod_takeCopy_21 (fun z => k_Mod_takeCopy_34 ?_) (fun _ => k_Mod_takeCopy_28 (hq _ (hx.brk.le (by omega)) (mo_ag.f (by decide))))
  rw [show (29 : Int32) = nI 29 from rfl, nI_leI (by omega) (by decide)] at z
  obtain ⟨u1, u2, u3, u4, u5⟩ := ux_dis v (by omega)
  refine w_Mod_baseOfDistance (k_Mod_takeCopy_38 (w_Mod_extraOfDistance (k_Mod_takeCopy_43 ?_)))
  rw [u1]
  refine w_Mod_take_x hfb hfa (by omega) (by omega) hx (fun M1 w hw x1 a1 => w_mcp_x47 hfb hfa x1 (fun M2 x2 a2 => hq M2 (x2.le (by omega)) (a1.tr a2)))
theorem w_mcp_x13 (hfb : fx_b F) (hfa : fa F = some (P, ls)) {M : pm_M} {B : Nat} {l2 l3 l4 l5 : Option pm_V} {x1 y0 y1 : Int32} (hB : B < 2 ^ 18) (hx : mk_x M F B) (hq : ∀ M', mk_x M' F (B + 18) → mk_a M M' → Q none M') : pm_R S (pm_PC S (d + 4)) Q 145 13 [some (.inr (.inr 19)), some (.inl x1), l2, l3, l4, l5] [.inl y0, .inl y1] M :=
  k_Mod_takeCopy_13 (w_Mod_take_x (n := 5) hfb hfa (by decide) (by omega) hx (fun M1 v hv x1 a1 => w_mcp_x21 hfb hfa (by omega) (by omega) x1 (fun M2 x2 a2 => hq M2 (x2.le (by omega)) (a1.tr a2))))
theorem w_Mod_takeCopy_x (hfb : fx_b F) (hfa : fa F = some (P, ls)) {M : pm_M} {B c : Nat} (hc : 257 ≤ c ∧ c < 286) (hB : B < 2 ^ 17) (hx : mk_x M F B) (hq : ∀ M', mk_x M' F (B + 23) → mk_a M M' → Q none M') : pm_PC S (d + 5) 145 [.inr (.inr 19), .inl (nI c)] M Q := by
  obtain ⟨u1, u2, u3, u4, u5⟩ := ux_len c hc.2 hc.1
  refine e_Mod_takeCopy (k_Mod_takeCopy_0 (w_Mod_baseOfLength (k_Mod_takeCopy_4 (w_Mod_extraOfLength (k_Mod_takeCopy_9 ?_)))))
  rw [u1]
  refine w_Mod_take_x hfb hfa (by omega) (by omega) hx (fun M1 v hv x1 a1 => w_mcp_x13 hfb hfa (by omega) x1 (fun M2 x2 a2 => hq M2 (x2.le (by omega)) (a1.tr a2)))
theorem w_Mod_takeCopy (hfb : fx_b F) (hfa : fa F = some (P, ls)) (hP : P.length ≤ 700) {M : pm_M} {c t n : Nat} {D : List Int32} (hc : 257 ≤ c ∧ c < 286) (hg : mk_g M F P t D n) (hy : ∀ t' D', un_copy P c t D = some (t', D') → ∀ M', mk_g M' F P t' D' (n + 1) → mk_a M M' → Q none M') (hq : un_copy P c t D = none → ∀ M', mk_x M' F (8 * P.length + 30) → mk_a M M' → Q none M') : pm_PC S (d + 5) 145 [.inr (.inr 19), .inl (nI c)] M Q := by
  obtain ⟨u1, u2, u3, u4, u5⟩ := ux_len c hc.2 hc.1
  have h300 := hg.2.2.2.2.1.2.1
  unfold un_copy at hy hq
  refine e_Mod_takeCopy (k_Mod_takeCopy_0 (w_Mod_baseOfLength (k_Mod_takeCopy_4 (w_Mod_extraOfLength (k_Mod_takeCopy_9 ?_)))))
  rw [u1, u3]
  refine w_Mod_take hfb hfa hP (by omega) hg (fun hA M1 g1 a1 => k_Mod_takeCopy_13 ?_) (fun hA M1 v hv x1 a1 => ?_)
  · rw [show tk_v 1 P t (ux_lb c) = rd_lo P t (ux_lb c) from rfl, nI_add]
    have hlo := rd_lo_lt P t (ux_lb c)
    have hlo2 : rd_lo P t (ux_lb c) < 32 := Nat.lt_of_lt_of_le hlo (Nat.pow_le_pow_right (n := 2) (by decide) u2)
    refine w_Mod_take (n := 5) hfb hfa hP (by decide) g1 (fun hB M2 g2 a2 => ?_) (fun hB M2 v hv x2 a2 => ?_)
    · rw [show tk_v 0 P (t + ux_lb c) 5 = rd_hi P (t + ux_lb c) 5 from rfl]
      have h5 := rd_hi_lt P (t + ux_lb c) 5
      generalize hT : rd_hi P (t + ux_lb c) 5 = T at hy hq h5 ⊢
      refine k_Mod_takeCopy_21 (fun z => k_Mod_takeCopy_34 ?_) (fun z => k_Mod_takeCopy_28 ?_)
      · rw [show (29 : Int32) = nI 29 from rfl, nI_leI (by omega) (by decide)] at z
        obtain ⟨w1, w2, w3, w4, w5⟩ := ux_dis T (by omega)
        refine w_Mod_baseOfDistance (k_Mod_takeCopy_38 (w_Mod_extraOfDistance (k_Mod_takeCopy_43 ?_)))
        rw [w1, w3]
        refine w_Mod_take hfb hfa hP (by omega) g2 (fun hC M3 g3 a3 => ?_) (fun hC M3 v hv x3 a3 => ?_)
        · rw [show tk_v 1 P (t + ux_lb c + 5) (ux_db T) = rd_lo P (t + ux_lb c + 5) (ux_db T) from rfl]
          have hd := rd_lo_lt P (t + ux_lb c + 5) (ux_db T)
          have hd2 : rd_lo P (t + ux_lb c + 5) (ux_db T) < 2 ^ 13 := Nat.lt_of_lt_of_le hd (Nat.pow_le_pow_right (by decide) w2)
          generalize rd_lo P (t + ux_lb c + 5) (ux_db T) = X at hy hq hd2 ⊢
          generalize rd_lo P t (ux_lb c) = Y at hy hq hlo2 ⊢
          have A3 := (a1.tr a2).tr a3
          refine k_Mod_takeCopy_47 (fun q => k_Mod_takeCopy_65 ?_) (fun q => k_Mod_takeCopy_59 ?_)
          · rw [nI_add, g3.2.2.2.2.1.1, nI_leI (by omega) (by omega)] at q
            rw [nI_add, g3.2.2.2.2.2, nI_1]
            have a4 : mo_ag [11] [] M3 (pm_up M3 19 11 (nI (n + 1))) := mo_ag.f (by decide)
            have A4 : mk_a M (pm_up M3 19 11 (nI (n + 1))) := A3.tr (a4.wd (by decide) (by decide))
            have g4 : mk_g (pm_up M3 19 11 (nI (n + 1))) F P (t + ux_lb c + 5 + ux_db T) D (n + 1) := ⟨g3.1.keep a4 (by decide) (by decide), by rw [a4.2 16 (by decide)]; exact g3.2.1, by rw [a4.2 17 (by decide)]; exact g3.2.2.1, g3.2.2.2.1, g3.2.2.2.2.1.keep a4 (by decide) (by decide), pm_up_hit⟩
            refine w_mcl_g (by omega) (by omega) (ux_ll c + Y) 0 _ D (by omega) q g4 (fun hl M' q1 q2 => ?_) (fun hl M' q1 q2 => ?_)
            · rw [if_pos ⟨hA, hB, z, hC, q, hl⟩] at hy
              exact hy _ _ rfl M' q1 (A4.tr q2)
            · rw [if_neg (fun w => by omega)] at hq
              exact hq rfl M' (q1.le (by omega)) (A4.tr q2)
          · rw [nI_add, g3.2.2.2.2.1.1, nI_leI (by omega) (by omega)] at q
            rw [if_neg (fun w => q w.2.2.2.2.1)] at hq
            exact hq rfl _ (g3.brk.le (by omega)) (A3.tr (mo_ag.f (by decide)))
        · rw [if_neg (fun w => by omega)] at hq
          exact w_mcp_x47 hfb hfa x3 (fun M4 x4 a4 => hq rfl M4 (x4.le (by omega)) (((a1.tr a2).tr a3).tr a4))
      · rw [show (29 : Int32) = nI 29 from rfl, nI_leI (by omega) (by decide)] at z
        rw [if_neg (fun w => z w.2.2.1)] at hq
        exact hq rfl _ (g2.brk.le (by omega)) ((a1.tr a2).tr (mo_ag.f (by decide)))
    · rw [if_neg (fun w => by omega)] at hq
      exact w_mcp_x21 hfb hfa (by omega) (by omega) x2 (fun M3 x3 a3 => hq rfl M3 (x3.le (by omega)) ((a1.tr a2).tr a3))
  · rw [if_neg (fun w => by omega)] at hq
    exact w_mcp_x13 hfb hfa (by omega) x1 (fun M2 x2 a2 => hq rfl M2 (x2.le (by omega)) (a1.tr a2))
theorem w_mcb_x {M : pm_M} {B : Nat} {l2 : Option pm_V} {x1 : Int32} (hx : mk_x M F B) (hq : Q none M) : pm_R S (pm_PC S d) Q 147 2 [some (.inr (.inr 19)), some (.inl x1), l2] [] M := by
  obtain ⟨t, D, h1, h2, h3, h4, h5⟩ := hx
  exact k_Mod_codedBlock_2 (fun _ => k_Mod_codedBlock_68 hq) (fun _ => k_Mod_codedBlock_6 (fun _ => k_Mod_codedBlock_68 hq) (fun z => absurd (by rw [h2]; decide) z))
theorem w_mcb_loop (hfb : fx_b F) (hfa : fa F = some (P, ls)) (hP : P.length ≤ 700) : ∀ (k : Nat) (M : pm_M) (t : Nat) (D : List Int32) (n : Nat) (l2 : Option pm_V), 8 * P.length - t < k → mk_g M F P t D n → (∀ t' D' n', un_codes P k t D n = some (t', D', n') → ∀ M', mk_g M' F P t' D' n' → mk_a M M' → Q none M') → (un_codes P k t D n = none → ∀ M', mk_x M' F (8 * P.length + 50) → mk_a M M' → Q none M') → pm_R S (pm_PC S (d + 5)) Q 147 2 [some (.inr (.inr 19)), some (.inl 1), l2] [] M := by
  intro k
  induction k with
  | zero => intro M t D n l2 hk; omega
  | succ k ih =>
    intro M t D n l2 hk hg hy hq
    unfold un_codes at hy hq
    refine k_Mod_codedBlock_2 (fun z => absurd z (by decide)) (fun _ => k_Mod_codedBlock_6 (fun z => absurd hg.2.1 z) (fun _ => k_Mod_codedBlock_13 (w_Mod_takeCode hfb hfa hP hg (fun c t' hcd M1 g1 a1 => ?_) (fun hcd M1 c hc x1 a1 => ?_))))
    · obtain ⟨k1, k2, k3⟩ := un_code_ok hcd
      rw [hcd] at hy hq
      simp only at hy hq
      refine k_Mod_codedBlock_17 (fun z => k_Mod_codedBlock_33 (fun z2 => k_Mod_codedBlock_45 (fun z3 => k_Mod_codedBlock_60 ?_) (fun z3 => k_Mod_codedBlock_52 (k_Mod_codedBlock_65 ?_))) (fun z2 => k_Mod_codedBlock_40 (k_Mod_codedBlock_65 ?_))) (fun z => k_Mod_codedBlock_25 ?_)
      · rw [show (256 : Int32) = nI 256 from rfl, nI_leI (by decide) (by omega)] at z
        have n256 : ¬ c = 256 := fun e => z2 (by rw [e]; rfl)
        rw [show (285 : Int32) = nI 285 from rfl, nI_leI (by omega) (by decide)] at z3
        rw [if_neg n256, if_neg (by omega), if_pos z3] at hy hq
        refine w_Mod_takeCopy hfb hfa hP ⟨by omega, by omega⟩ g1 (fun t2 D2 hcp M2 g2 a2 => k_Mod_codedBlock_65 ?_) (fun hcp M2 x2 a2 => k_Mod_codedBlock_65 ?_)
        · rw [hcp] at hy hq
          have ho := un_copy_ok hcp
          exact ih M2 t2 D2 (n + 1) _ (by omega) g2 (fun t3 D3 n3 e M3 g3 a3 => hy t3 D3 n3 e M3 g3 ((a1.tr a2).tr a3)) (fun e M3 x3 a3 => hq e M3 x3 ((a1.tr a2).tr a3))
        · rw [hcp] at hq
          exact w_mcb_x x2 (hq rfl M2 (x2.le (by omega)) (a1.tr a2))
      · rw [show (256 : Int32) = nI 256 from rfl, nI_leI (by decide) (by omega)] at z
        have n256 : ¬ c = 256 := fun e => z2 (by rw [e]; rfl)
        rw [show (285 : Int32) = nI 285 from rfl, nI_leI (by omega) (by decide)] at z3
        rw [if_neg n256, if_neg (by omega), if_neg z3] at hq
        exact w_mcb_x g1.brk (hq rfl _ (g1.brk.le (by omega)) (a1.tr (mo_ag.f (by decide))))
      · have e := (nI_eq (a := c) (b := 256) (by omega) (by decide)).mp (Classical.not_not.mp z2)
        rw [if_pos e] at hy
        exact k_Mod_codedBlock_2 (fun _ => k_Mod_codedBlock_68 (hy _ _ _ rfl M1 g1 a1)) (fun z => absurd rfl z)
      · rw [show (256 : Int32) = nI 256 from rfl, nI_leI (by decide) (by omega)] at z
        rw [if_neg (by omega), if_pos (by omega)] at hy hq
        refine w_Mod_give g1 (fun hlt M2 g2 a2 => k_Mod_codedBlock_30 (k_Mod_codedBlock_65 ?_)) (fun he M2 x2 a2 => k_Mod_codedBlock_30 (k_Mod_codedBlock_65 ?_))
        · rw [if_pos hlt] at hy hq
          exact ih M2 t' _ n _ (by omega) g2 (fun t3 D3 n3 e M3 g3 a3 => hy t3 D3 n3 e M3 g3 ((a1.tr a2).tr a3)) (fun e M3 x3 a3 => hq e M3 x3 ((a1.tr a2).tr a3))
        · rw [if_neg (by omega)] at hq
          exact w_mcb_x x2 (hq rfl M2 (x2.le (by omega)) (a1.tr a2))
    · rw [hcd] at hq
      have hq := hq rfl
      refine k_Mod_codedBlock_17 (fun z => k_Mod_codedBlock_33 (fun z2 => k_Mod_codedBlock_45 (fun z3 => k_Mod_codedBlock_60 ?_) (fun z3 => k_Mod_codedBlock_52 (k_Mod_codedBlock_65 (w_mcb_x x1.brk (hq _ (x1.brk.le (by omega)) (a1.tr (mo_ag.f (by decide)))))))) (fun z2 => k_Mod_codedBlock_40 (k_Mod_codedBlock_65 (w_mcb_x x1 (hq M1 (x1.le (by omega)) a1))))) (fun z => k_Mod_codedBlock_25 (w_Mod_give_x x1 (fun M2 x2 a2 => k_Mod_codedBlock_30 (k_Mod_codedBlock_65 (w_mcb_x x2 (hq M2 (x2.le (by omega)) (a1.tr a2)))))))
      rw [show (256 : Int32) = nI 256 from rfl, nI_leI (by decide) (by omega)] at z
      have n256 : ¬ c = 256 := fun e => z2 (by rw [e]; rfl)
      rw [show (285 : Int32) = nI 285 from rfl, nI_leI (by omega) (by decide)] at z3
      exact w_Mod_takeCopy_x hfb hfa ⟨by omega, by omega⟩ (by omega) x1 (fun M2 x2 a2 => k_Mod_codedBlock_65 (w_mcb_x x2 (hq M2 (x2.le (by omega)) (a1.tr a2))))
theorem w_Mod_codedBlock (hfb : fx_b F) (hfa : fa F = some (P, ls)) (hP : P.length ≤ 700) {M : pm_M} {t n : Nat} {D : List Int32} (hg : mk_g M F P t D n) (hy : ∀ t' D' n', un_codes P (8 * P.length + 1) t D n = some (t', D', n') → ∀ M', mk_g M' F P t' D' n' → mk_a M M' → Q none M') (hq : un_codes P (8 * P.length + 1) t D n = none → ∀ M', mk_x M' F (8 * P.length + 50) → mk_a M M' → Q none M') : pm_PC S (d + 6) 147 [.inr (.inr 19)] M Q :=
  e_Mod_codedBlock (k_Mod_codedBlock_0 (w_mcb_loop hfb hfa hP (8 * P.length + 1) M t D n _ (by omega) hg hy hq))
theorem w_Mod_codedBlock_x {M : pm_M} {B : Nat} (hx : mk_x M F B) (hq : Q none M) : pm_PC S (d + 1) 147 [.inr (.inr 19)] M Q :=
  e_Mod_codedBlock (k_Mod_codedBlock_0 (w_mcb_x hx hq))
end MOD
