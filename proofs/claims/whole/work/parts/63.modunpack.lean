/-! SevenPassImageModel: plain blocks, unpacked. -/
section MOD
variable {S d : Nat} {Q : pm_Q} {F P : List Int32} {ls : Nat}
theorem w_mpl_x {M : pm_M} {B : Nat} {l4 : Option pm_V} {x1 x2 x3 : Int32} (hx : mk_x M F B) (hq : Q none M) : pm_R S (pm_PC S d) Q 146 59 [some (.inr (.inr 19)), some (.inl x1), some (.inl x2), some (.inl x3), l4] [] M := by
  obtain ⟨t, D, h1, h2, h3, h4, h5⟩ := hx
  exact k_Mod_plainBlock_59 (fun _ => k_Mod_plainBlock_92 hq) (fun _ => k_Mod_plainBlock_64 (fun _ => k_Mod_plainBlock_92 hq) (fun z => absurd (by rw [h2]; decide) z))
theorem w_mpl_g (hfb : fx_b F) (hfa : fa F = some (P, ls)) (hP : P.length ≤ 700) {m n : Nat} {x2 : Int32} (hm : m < 65536) : ∀ (k i : Nat) (M : pm_M) (t : Nat) (D : List Int32) (l4 : Option pm_V), i + k = m → mk_g M F P t D n → (∀ t' D', un_by P k t D = some (t', D') → ∀ M', mk_g M' F P t' D' n → mk_a M M' → Q none M') → (un_by P k t D = none → ∀ M', mk_x M' F (8 * P.length + 8) → mk_a M M' → Q none M') → pm_R S (pm_PC S (d + 4)) Q 146 59 [some (.inr (.inr 19)), some (.inl (nI m)), some (.inl x2), some (.inl (nI i)), l4] [] M := by
  intro k
  induction k with
  | zero =>
    intro i M t D l4 hi hg hy hq
    have e : i = m := by omega
    subst e
    exact k_Mod_plainBlock_59 (fun _ => k_Mod_plainBlock_92 (hy t D rfl M hg mo_ag.rf)) (fun z => absurd (nI_le (Nat.le_refl _) (by omega)) z)
  | succ k ih =>
    intro i M t D l4 hi hg hy hq
    have h300 := hg.2.2.2.2.1.2.1
    unfold un_by at hy hq
    refine k_Mod_plainBlock_59 (fun z => absurd z (nI_ge (by omega) (by omega))) (fun _ => k_Mod_plainBlock_64 (fun z => absurd hg.2.1 z) (fun _ => k_Mod_plainBlock_71 (w_Mod_take (n := 8) hfb hfa hP (by decide) hg (fun h8 M1 g1 a1 => k_Mod_plainBlock_78 ?_) (fun h8 M1 u hu x1 a1 => k_Mod_plainBlock_78 ?_))))
    · rw [show tk_v 1 P t 8 = rd_lo P t 8 from rfl]
      refine w_Mod_give g1 (fun hlt M2 g2 a2 => k_Mod_plainBlock_86 ?_) (fun he M2 x2 a2 => k_Mod_plainBlock_86 ?_)
      · rw [if_pos ⟨h8, hlt⟩] at hy hq
        rw [nI_1]
        exact ih (i + 1) M2 _ _ _ (by omega) g2 (fun t' D' e M' q1 q2 => hy t' D' e M' q1 ((a1.tr a2).tr q2)) (fun e M' q1 q2 => hq e M' q1 ((a1.tr a2).tr q2))
      · rw [if_neg (fun w => by omega)] at hq
        exact w_mpl_x x2 (hq rfl M2 (x2.le (by omega)) (a1.tr a2))
    · rw [if_neg (fun w => by omega)] at hq
      exact w_Mod_give_x x1 (fun M2 x2 a2 => k_Mod_plainBlock_86 (w_mpl_x x2 (hq rfl M2 x2 (a1.tr a2))))
theorem w_mpb_x32 {M : pm_M} {B : Nat} {l2 l3 l4 : Option pm_V} {x1 y : Int32} (hx : mk_x M F B) (hq : ∀ M', mk_x M' F B → mk_a M M' → Q none M') : pm_R S (pm_PC S d) Q 146 32 [some (.inr (.inr 19)), some (.inl x1), l2, l3, l4] [.inl y] M := by
  have hx0 := hx
  obtain ⟨t, D, h1, h2, h3, h4, h5⟩ := hx
  exact k_Mod_plainBlock_32 (fun _ => k_Mod_plainBlock_49 (k_Mod_plainBlock_54 (Or.inr rfl) (w_mpl_x hx0.brk (hq _ hx0.brk (mo_ag.f (by decide)))))) (fun z => absurd (by rw [h2]; decide) z)
theorem w_Mod_plainBlock_x (hfb : fx_b F) (hfa : fa F = some (P, ls)) {M : pm_M} {B : Nat} (hB : B < 2 ^ 17) (hx : mk_x M F B) (hq : ∀ M', mk_x M' F (B + 39) → mk_a M M' → Q none M') : pm_PC S (d + 5) 146 [.inr (.inr 19)] M Q := by
  refine e_Mod_plainBlock (k_Mod_plainBlock_0 ?_)
  have hx2 : mk_x (pm_up M 19 17 ((M 19 17 + 7) / 8 * 8)) F (B + 7) := by
    obtain ⟨t, D, h1, h2, h3, h4, h5⟩ := hx
    have a : mo_ag [17] [] M (pm_up M 19 17 ((M 19 17 + 7) / 8 * 8)) := mo_ag.f (by decide)
    refine ⟨(t + 7) / 8 * 8, D, h1.keep a (by decide) (by decide), by rw [a.2 16 (by decide)]; exact h2, ?_, by omega, h5.keep a (by decide) (by decide)⟩
    rw [pm_up_hit, h3, show (7 : Int32) = nI 7 from rfl, nI_add, nm_div8 (by omega), show (8 : Int32) = nI 8 from rfl, pk_mul]
  have a0 : mk_a M (pm_up M 19 17 ((M 19 17 + 7) / 8 * 8)) := mo_ag.f (by decide)
  refine w_Mod_take_x (n := 16) hfb hfa (by decide) (by omega) hx2 (fun M1 v1 hv1 x1 a1 => k_Mod_plainBlock_24 (w_Mod_take_x (n := 16) hfb hfa (by decide) (by omega) x1 (fun M2 v2 hv2 x2 a2 => w_mpb_x32 x2 (fun M3 x3 a3 => hq M3 (x3.le (by omega)) (((a0.tr a1).tr a2).tr a3)))))
theorem w_Mod_plainBlock (hfb : fx_b F) (hfa : fa F = some (P, ls)) (hP : P.length ≤ 700) {M : pm_M} {t n : Nat} {D : List Int32} (hg : mk_g M F P t D n) (hy : ∀ t' D', un_plain P t D = some (t', D') → ∀ M', mk_g M' F P t' D' n → mk_a M M' → Q none M') (hq : un_plain P t D = none → ∀ M', mk_x M' F (8 * P.length + 40) → mk_a M M' → Q none M') : pm_PC S (d + 5) 146 [.inr (.inr 19)] M Q := by
  refine e_Mod_plainBlock (k_Mod_plainBlock_0 ?_)
  have ht8 := hg.2.2.2.1
  have e0 : (M 19 17 + 7) / 8 * 8 = nI ((t + 7) / 8 * 8) := by
    rw [hg.2.2.1, show (7 : Int32) = nI 7 from rfl, nI_add, nm_div8 (by omega), show (8 : Int32) = nI 8 from rfl, pk_mul]
  rw [e0]
  unfold un_plain at hy hq
  generalize hu : (t + 7) / 8 * 8 = u at hy hq ⊢
  have hu8 : u ≤ 8 * P.length := by omega
  have a0' : mo_ag [17] [] M (pm_up M 19 17 (nI u)) := mo_ag.f (by decide)
  have a0 : mk_a M (pm_up M 19 17 (nI u)) := mo_ag.f (by decide)
  have g0 : mk_g (pm_up M 19 17 (nI u)) F P u D n := ⟨hg.1.keep a0' (by decide) (by decide), by rw [a0'.2 16 (by decide)]; exact hg.2.1, pm_up_hit, hu8, hg.2.2.2.2.1.keep a0' (by decide) (by decide), by rw [a0'.2 11 (by decide)]; exact hg.2.2.2.2.2⟩
  refine w_Mod_take (n := 16) hfb hfa hP (by decide) g0 (fun hA M1 g1 a1 => k_Mod_plainBlock_24 ?_) (fun hA M1 v hv x1 a1 => k_Mod_plainBlock_24 ?_)
  · rw [show tk_v 1 P u 16 = rd_lo P u 16 from rfl]
    have l1 := rd_lo_lt P u 16
    refine w_Mod_take (n := 16) hfb hfa hP (by decide) g1 (fun hB M2 g2 a2 => ?_) (fun hB M2 v hv x2 a2 => ?_)
    · rw [show tk_v 1 P (u + 16) 16 = rd_lo P (u + 16) 16 from rfl]
      have l2 := rd_lo_lt P (u + 16) 16
      have A2 := (a0.tr a1).tr a2
      refine k_Mod_plainBlock_32 (fun z => absurd g2.2.1 z) (fun _ => k_Mod_plainBlock_41 (fun z => k_Mod_plainBlock_53 (k_Mod_plainBlock_54 (Or.inl rfl) ?_)) (fun z => k_Mod_plainBlock_49 (k_Mod_plainBlock_54 (Or.inr rfl) ?_)))
      · rw [nI_add, show (65535 : Int32) = nI 65535 from rfl, nI_eq (by omega) (by decide)] at z
        rw [if_pos ⟨by omega, z⟩] at hy hq
        have a3' : mo_ag [16] [] M2 (pm_up M2 19 16 0) := mo_ag.f (by decide)
        have a3 : mk_a M2 (pm_up M2 19 16 0) := mo_ag.f (by decide)
        have g3 : mk_g (pm_up M2 19 16 0) F P (u + 32) D n := ⟨g2.1.keep a3' (by decide) (by decide), pm_up_hit, by rw [a3'.2 17 (by decide)]; exact g2.2.2.1, g2.2.2.2.1, g2.2.2.2.2.1.keep a3' (by decide) (by decide), by rw [a3'.2 11 (by decide)]; exact g2.2.2.2.2.2⟩
        exact w_mpl_g hfb hfa hP (by omega) (rd_lo P u 16) 0 _ _ D _ (by omega) g3 (fun t' D' e M' q1 q2 => hy t' D' e M' q1 ((A2.tr a3).tr q2)) (fun e M' q1 q2 => hq e M' (q1.le (by omega)) ((A2.tr a3).tr q2))
      · rw [nI_add, show (65535 : Int32) = nI 65535 from rfl, nI_eq (by omega) (by decide)] at z
        rw [if_neg (fun w => z w.2)] at hq
        exact w_mpl_x g2.brk (hq rfl _ (g2.brk.le (by omega)) (A2.tr (mo_ag.f (by decide))))
    · rw [if_neg (fun w => by omega)] at hq
      exact w_mpb_x32 x2 (fun M3 x3 a3 => hq rfl M3 (x3.le (by omega)) (((a0.tr a1).tr a2).tr a3))
  · rw [if_neg (fun w => by omega)] at hq
    exact w_Mod_take_x (n := 16) hfb hfa (by decide) (by omega) x1 (fun M2 v2 hv2 x2 a2 => w_mpb_x32 x2 (fun M3 x3 a3 => hq rfl M3 (x3.le (by omega)) (((a0.tr a1).tr a2).tr a3)))
end MOD
/-! what is unpacked are bytes -/
theorem un_cp_b {dist : Nat} (hd : 1 ≤ dist) : ∀ k (D : List Int32), dist ≤ D.length → fx_b D → fx_b (un_cp dist k D)
  | 0, _, _, h => h
  | k + 1, D, hl, h => by
    unfold un_cp
    refine un_cp_b hd k _ (by simp; omega) (h.app (fx_b.mem (fun x hx => ?_)))
    rcases List.mem_cons.mp hx with rfl | hx
    · rw [List.getElem?_eq_getElem (by omega)]
      exact h _ _ (List.getElem?_eq_getElem _)
    · cases hx
theorem fx_one {n : Nat} (h : n < 256) : fx_b [nI n] := fx_b.mem (fun x hx => by
  rcases List.mem_cons.mp hx with rfl | hx
  · exact ⟨n, h, rfl⟩
  · cases hx)
theorem un_copy_b {P : List Int32} {c t t' : Nat} {D D' : List Int32} (h : un_copy P c t D = some (t', D')) (hb : fx_b D) : fx_b D' := by
  unfold un_copy at h
  split at h
  · rename_i hc
    simp only [Option.some.injEq, Prod.mk.injEq] at h
    rw [← h.2]
    have h5 := rd_hi_lt P (t + ux_lb c) 5
    obtain ⟨-, -, -, -, w5⟩ := ux_dis (rd_hi P (t + ux_lb c) 5) (by omega)
    exact un_cp_b (by omega) _ _ hc.2.2.2.2.1 hb
  · cases h
theorem un_codes_b {P : List Int32} : ∀ (k t : Nat) (D : List Int32) (n t' : Nat) (D' : List Int32) (n' : Nat), un_codes P k t D n = some (t', D', n') → fx_b D → fx_b D'
  | 0, _, _, _, _, _, _, h, _ => by cases h
  | k + 1, t, D, n, t', D', n', h, hb => by
    unfold un_codes at h
    split at h
    · cases h
    · split at h
      · simp only [Option.some.injEq, Prod.mk.injEq] at h
        rw [← h.2.1]
        exact hb
      · split at h
        · rename_i hc
          split at h
          · exact un_codes_b k _ _ _ _ _ _ h (hb.app (fx_one hc))
          · cases h
        · split at h
          · split at h
            · cases h
            · rename_i hcp
              exact un_codes_b k _ _ _ _ _ _ h (un_copy_b hcp hb)
          · cases h
theorem un_by_b {P : List Int32} : ∀ (k t : Nat) (D : List Int32) (t' : Nat) (D' : List Int32), un_by P k t D = some (t', D') → fx_b D → fx_b D'
  | 0, _, _, _, _, h, hb => by
    unfold un_by at h
    simp only [Option.some.injEq, Prod.mk.injEq] at h
    rw [← h.2]
    exact hb
  | k + 1, t, D, t', D', h, hb => by
    unfold un_by at h
    split at h
    · exact un_by_b k _ _ _ _ h (hb.app (fx_one (rd_lo_lt P t 8)))
    · cases h
theorem un_block_b {P : List Int32} {t n t' n' : Nat} {D D' : List Int32} (h : un_block P t D n = some (t', D', n')) (hb : fx_b D) : fx_b D' := by
  unfold un_block at h
  split at h
  · split at h
    · split at h
      · cases h
      · rename_i hpl
        simp only [Option.some.injEq, Prod.mk.injEq] at h
        rw [← h.2.1]
        unfold un_plain at hpl
        split at hpl
        · exact un_by_b _ _ _ _ _ hpl hb
        · cases hpl
    · split at h
      · exact un_codes_b _ _ _ _ _ _ _ h hb
      · cases h
  · cases h
theorem un_blocks_b {P : List Int32} : ∀ (k t : Nat) (D : List Int32) (n t' : Nat) (D' : List Int32) (n' : Nat), un_blocks P k t D n = some (t', D', n') → fx_b D → fx_b D'
  | 0, _, _, _, _, _, _, h, _ => by cases h
  | k + 1, t, D, n, t', D', n', h, hb => by
    unfold un_blocks at h
    split at h
    · split at h
      · cases h
      · rename_i hbl
        have hb2 := un_block_b hbl hb
        split at h
        · simp only [Option.some.injEq, Prod.mk.injEq] at h
          rw [← h.2.1]
          exact hb2
        · exact un_blocks_b k _ _ _ _ _ _ h hb2
    · cases h
theorem un_all_b {P D : List Int32} {n : Nat} (h : un_all P = some (D, n)) : fx_b D := by
  unfold un_all at h
  split at h
  · split at h
    · cases h
    · rename_i hbl
      split at h
      · simp only [Option.some.injEq, Prod.mk.injEq] at h
        rw [← h.1]
        exact un_blocks_b _ _ _ _ _ _ _ hbl fx_nil
      · cases h
  · cases h
theorem fa_go_b {F : List Int32} (hb : fx_b F) : ∀ (n k : Nat) (de : Option Nat) (P : List Int32) (ls : Nat) (P' : List Int32) (ls' : Nat), fa_go F n k de P ls = some (P', ls') → fx_b P → P.length ≤ k → k ≤ F.length → fx_b P' ∧ P'.length ≤ F.length
  | 0, _, _, _, _, _, _, h, _, _, _ => by cases h
  | n + 1, k, de, P, ls, P', ls', h, hP, hl, hk => by
    unfold fa_go at h
    split at h
    · split at h
      · cases h
      · cases h; exact ⟨hP, by omega⟩
    · split at h
      · cases h
      · rename_i e he
        have := fx_end_ok he
        split at h
        · split at h
          · split at h
            · refine fa_go_b hb n _ _ _ _ _ _ h (hP.app (fun i x hx => ?_)) ?_ (by omega)
              · unfold by_sl at hx
                rw [List.getElem?_take] at hx
                split at hx
                · rw [List.getElem?_drop] at hx
                  exact hb _ x hx
                · cases hx
              · rw [List.length_append]
                unfold by_sl
                rw [List.length_take]
                omega
            · cases h
          · exact fa_go_b hb n _ _ _ _ _ _ h hP (by omega) (by omega)
        · cases h
theorem fa_b {F P : List Int32} {ls : Nat} (hb : fx_b F) (h : fa F = some (P, ls)) : fx_b P ∧ P.length ≤ F.length := by
  unfold fa at h
  split at h
  · rename_i hs
    exact fa_go_b hb _ _ _ _ _ _ _ h fx_nil (Nat.zero_le _) (fa_sg8 hs)
  · cases h
