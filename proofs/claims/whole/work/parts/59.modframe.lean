/-! SevenPassImageModel: framed, header. -/
section MOD
variable {S d : Nat} {Q : pm_Q} {F : List Int32}
theorem w_mfr_sig {M : pm_M} {l2 l3 l4 : Option pm_V} (hF : mo_f M F) (h8 : 8 ≤ F.length) (hy : fa_sg F 8 → ∀ l1, pm_R S (pm_PC S (d + 1)) Q 139 40 [some (.inr (.inr 19)), l1, l2, l3, l4] [] M) (hn : ¬ fa_sg F 8 → Q (some (.inl 0)) M) : ∀ (k i : Nat), i + k = 8 → fa_sg F i → pm_R S (pm_PC S (d + 1)) Q 139 13 [some (.inr (.inr 19)), some (.inl (nI i)), l2, l3, l4] [] M := by
  intro k
  induction k with
  | zero =>
    intro i hi hs
    have e : i = 8 := by omega
    subst e
    exact k_Mod_framed_13 (fun _ => hy hs _) (fun z => absurd (by decide) z)
  | succ k ih =>
    intro i hi hs
    refine k_Mod_framed_13 (fun z => absurd z (nI_ge (b := 8) (by omega) (by decide))) (fun _ => k_Mod_framed_19 (vp_in_nI (by omega) (by decide)) ?_)
    rw [nI_clamp (by omega), hF.at (by omega)]
    refine w_Mod_signature (by omega) (k_Mod_framed_29 (fun z => k_Mod_framed_34 ?_) (fun z => k_Mod_framed_32 (hn (fun s => z (s i (by omega))))))
    rw [nI_1]
    refine ih (i + 1) (by omega) (fun j hj => ?_)
    by_cases e : j = i
    · subst e; exact z
    · exact hs j (by omega)
/-- the model's state against the class's -/
def fr_st (st k : Nat) (de : Option Nat) : Prop := (st = 0 ∧ k = 8 ∧ de = none) ∨ (st = 1 ∧ 8 < k ∧ de = none) ∨ (st = 2 ∧ 8 < k ∧ de = some k) ∨ (st = 3 ∧ 8 < k ∧ ∃ e, e < k ∧ de = some e)
theorem w_mfr_loop {M0 : pm_M} (hb : fx_b F) (hy : ∀ P ls, fa F = some (P, ls) → ∀ M', M' 19 18 = nI ls → mo_ag [18] [] M0 M' → Q (some (.inl 1)) M') (hn : fa F = none → ∀ M', mo_ag [18] [] M0 M' → Q (some (.inl 0)) M') :
    ∀ (n k st : Nat) (de : Option Nat) (P : List Int32) (ls : Nat) (M : pm_M) (l3 l4 : Option pm_V), fa_go F n k de P ls = fa F → F.length < k + n → k ≤ F.length → (k = F.length → de = none) → fr_st st k de → mo_f M F → mo_ag [18] [] M0 M → pm_R S (pm_PC S (d + 2)) Q 139 45 [some (.inr (.inr 19)), some (.inl (nI k)), some (.inl (nI st)), l3, l4] [] M := by
  intro n
  induction n with
  | zero => intro k st de P ls M l3 l4 hg hk hkF; omega
  | succ n ih =>
    intro k st de P ls M l3 l4 hg hk hkF hkd hst hF ha
    have h700 := hF.2.1
    have hst4 : st < 4 := by
      rcases hst with h | h | h | h <;> omega
    have bad : ∀ (k' st' : Nat) (l3 l4 : Option pm_V), fa F = none → st' < 4 → F.length ≤ k' → k' < 1000 → pm_R S (pm_PC S (d + 2)) Q 139 45 [some (.inr (.inr 19)), some (.inl (nI k')), some (.inl (nI st')), l3, l4] [] M := by
      intro k' st' l3 l4 hno hst' hk' hk2
      refine k_Mod_framed_45 (fun _ => k_Mod_framed_222 (fun _ => k_Mod_framed_231 (k_Mod_framed_232 (by decide) (hn hno M ha))) (fun z => ?_)) (fun z => absurd (by rw [hF.1]; exact nI_le hk' (by omega)) z)
      exact absurd (fun e => absurd ((nI_eq (a := st') (b := 4) (by omega) (by decide)).mp e) (by omega)) z
    by_cases hkl : F.length ≤ k
    · unfold fa_go at hg
      rw [if_pos hkl, if_pos (hkd (by omega))] at hg
      exact bad k st _ _ hg.symm hst4 hkl (by omega)
    · unfold fa_go at hg
      rw [if_neg hkl] at hg
      refine k_Mod_framed_45 (fun z => absurd (by rw [hF.1] at z; exact z) (nI_ge (by omega) (by omega))) (fun _ => k_Mod_framed_53 (w_Mod_chunkEnd hF hb (fun i e ei he => ?_) (fun hno => ?_)))
      · have ei := (nI_eq (by omega) (by
          have := fx_end_ok he
          omega)).mp ei
        subst ei
        rw [he] at hg
        simp only at hg
        obtain ⟨o1, o2, o3⟩ := fx_end_ok he
        refine k_Mod_framed_58 (fun z => absurd z (nI_pos (by omega))) (fun _ => k_Mod_framed_63 (fun z => absurd ((nI_eq (a := st) (b := 4) (by omega) (by decide)).mp z) (by omega)) (fun _ => k_Mod_framed_68 ?_))
        have e4 : nI e - 4 = nI (e - 4) := by rw [show (4 : Int32) = nI 4 from rfl, pk_sub (by omega)]
        have k4 : nI k + 4 = nI (k + 4) := by rw [show (4 : Int32) = nI 4 from rfl, nI_add]
        rw [e4]
        refine w_Mod_number hF hb (by omega) (k_Mod_framed_75 ?_)
        rw [e4, k4]
        refine w_Mod_check hF hb (by omega) (by omega) (k_Mod_framed_85 (fun z => k_Mod_framed_96 ?_) (fun z => k_Mod_framed_94 (hn ?_ M ha)))
        · rw [i64_mask, lg_cmp_eq, i64_eq (by have := fx_m_lt hb (i := e - 4) (by omega); omega) (Nat.lt_trans (BitVec.isLt _) (by decide))] at z
          have hck : fa_ck F k e := by
            show by_num F (e - 4) = _
            rw [(fx_num hb (i := e - 4) (by omega)).1, z, nI_self]
          -- what the abstract loop asks further
          have hms : ¬ fa_ms F k e → fa F = none := fun h => by
            rw [if_neg (fun q => h q.2)] at hg
            exact hg.symm
          have hgo : fa_ms F k e → (if by_num F (k + 4) = 1229209940 then (if de = none ∨ de = some k then fa_go F n e (some e) (P ++ by_sl F (k + 8) (e - 4 - (k + 8))) k else none) else fa_go F n e de P k) = fa F := fun h => by
            rw [if_pos ⟨hck, h⟩] at hg
            exact hg
          have hN : ∀ {x y : Nat}, x < 1000 → y < 1000 → nI x = nI y → x = y := fun hx hy h => (nI_eq (by omega) (by omega)).mp h
          have s0 : nI st = 0 ↔ st = 0 := ⟨fun h => hN (y := 0) (by omega) (by decide) h, fun h => by rw [h]; rfl⟩
          have s2 : nI st = 2 ↔ st = 2 := ⟨fun h => hN (y := 2) (by omega) (by decide) h, fun h => by rw [h]; rfl⟩
          have s2l : nI st ≤ 2 ↔ st ≤ 2 := by rw [show (2 : Int32) = nI 2 from rfl, nI_leI (by omega) (by decide)]
          have s2g : 2 ≤ nI st ↔ 2 ≤ st := by rw [show (2 : Int32) = nI 2 from rfl, nI_leI (by decide) (by omega)]
          have st0 : st = 0 ↔ k = 8 := by
            rcases hst with h | h | h | h <;> omega
          -- from the test of the first chunk on
          have key : ∀ y, ((y = 1 ∧ by_num F (k + 4) = 1229472850) ∨ (y = 0 ∧ ¬ by_num F (k + 4) = 1229472850)) → ∀ l4, pm_R S (pm_PC S (d + 2)) Q 139 109 [some (.inr (.inr 19)), some (.inl (nI k)), some (.inl (nI st)), some (.inl (nI e)), l4] [.inl y] M := by
            intro y hyy l4
            have hf : (y = if st = 0 then (1 : Int32) else 0) ↔ (by_num F (k + 4) = 1229472850 ↔ st = 0) := by
              rcases hyy with ⟨rfl, h⟩ | ⟨rfl, h⟩
              · by_cases e0 : st = 0
                · rw [if_pos e0]; exact ⟨fun _ => ⟨fun _ => e0, fun _ => h⟩, fun _ => rfl⟩
                · rw [if_neg e0]; exact ⟨fun q => absurd q (by decide), fun q => absurd (q.mp h) e0⟩
              · by_cases e0 : st = 0
                · rw [if_pos e0]; exact ⟨fun q => absurd q (by decide), fun q => absurd (q.mpr e0) h⟩
                · rw [if_neg e0]; exact ⟨fun _ => ⟨fun q => absurd q h, fun q => absurd q e0⟩, fun _ => rfl⟩
            have next : pm_R S (pm_PC S (d + 2)) Q 139 122 [some (.inr (.inr 19)), some (.inl (nI k)), some (.inl (nI st)), some (.inl (nI e)), some (.inl y)] [.inl (if st = 0 then (1 : Int32) else 0), .inl y] M := by
              refine k_Mod_framed_122 (fun q => ?_) (fun q => k_Mod_framed_125 (hn (hms ?_) M ha))
              · have hsame := hf.mp q
                refine k_Mod_framed_127 (w_Mod_isData hF hb (by omega) (fun hD => k_Mod_framed_132 (fun z => absurd z (by decide)) (fun _ => ?_)) (fun hD => k_Mod_framed_132 (fun _ => k_Mod_framed_147 ?_) (fun z => absurd rfl z)))
                · -- DATA
                  have hH : ¬ by_num F (k + 4) = 1229472850 := by rw [hD]; decide
                  have hL : ¬ by_num F (k + 4) = 1229278788 := by rw [hD]; decide
                  have h8 : ¬ k = 8 := fun q => hH (hsame.mpr (st0.mpr q))
                  by_cases hel : e = F.length
                  · have hno : fa F = none := hms (by
                      rintro (q | q | q)
                      · exact h8 q.2.1
                      · exact hL q.2.2.2
                      · exact q.2.1 (Or.inl hel))
                    exact k_Mod_framed_135 (fun _ => k_Mod_framed_142 (k_Mod_framed_217 (bad e 2 _ _ hno (by decide) (by omega) (by omega)))) (fun _ => k_Mod_framed_140 (hn hno M ha))
                  · have hg2 := hgo (Or.inr (Or.inr ⟨fun q => q.elim h8 hH, fun q => q.elim hel hL, Or.inl hD⟩))
                    rw [if_pos hD] at hg2
                    refine k_Mod_framed_135 (fun q => k_Mod_framed_142 (k_Mod_framed_217 ?_)) (fun q => k_Mod_framed_140 (hn ?_ M ha))
                    · rw [s2l] at q
                      have hde : de = none ∨ de = some k := by
                        rcases hst with h | h | h | h
                        · exact Or.inl h.2.2
                        · exact Or.inl h.2.2
                        · exact Or.inr h.2.2
                        · omega
                      rw [if_pos hde] at hg2
                      exact ih e 2 (some e) _ k M _ _ hg2 (by omega) o2 (fun q => absurd q hel) (Or.inr (Or.inr (Or.inl ⟨rfl, by omega, rfl⟩))) hF ha
                    · rw [s2l] at q
                      rw [if_neg] at hg2
                      · exact hg2.symm
                      · rcases hst with h | h | h | ⟨-, -, e', h1, h2⟩
                        · omega
                        · omega
                        · omega
                        · rw [h2]
                          rintro (t | t)
                          · cases t
                          · cases t
                            omega
                · -- not DATA
                  refine w_Mod_typed (a := 73) (b := 69) (c := 78) (e := 68) (T := 1229278788) hF hb (by omega) (by decide) (by decide) (by decide) (by decide) (by decide) (fun hL => k_Mod_framed_160 (fun z => absurd z (by decide)) (fun _ => ?_)) (fun hL => k_Mod_framed_160 (fun _ => ?_) (fun z => absurd rfl z))
                  · -- LAST
                    have hH : ¬ by_num F (k + 4) = 1229472850 := by rw [hL]; decide
                    have h8 : ¬ k = 8 := fun q => hH (hsame.mpr (st0.mpr q))
                    refine k_Mod_framed_163 (fun q => k_Mod_framed_170 (k_Mod_framed_217 ?_)) (fun q => k_Mod_framed_168 (hn ?_ M ha))
                    · rw [s2g] at q
                      have au : mo_ag [18] [] M (pm_up M 19 18 (nI k)) := mo_ag.f (by decide)
                      have hFu := hF.keep au (by decide) (by decide)
                      by_cases hel : e = F.length
                      · have hg2 := hgo (Or.inr (Or.inl ⟨fun q => q.elim h8 hH, Or.inl hel, hel, hL⟩))
                        rw [if_neg hD] at hg2
                        have hn0 : ¬ n = 0 := by omega
                        obtain ⟨n', rfl⟩ := Nat.exists_eq_succ_of_ne_zero hn0
                        unfold fa_go at hg2
                        have hde : ¬ de = none := by
                          rcases hst with h | h | h | ⟨-, -, e', h1, h2⟩
                          · omega
                          · omega
                          · rw [h.2.2]; simp
                          · rw [h2]; simp
                        rw [if_pos (by omega), if_neg hde] at hg2
                        refine k_Mod_framed_45 (fun _ => k_Mod_framed_222 (fun t => absurd rfl t) (fun _ => k_Mod_framed_227 (k_Mod_framed_232 (by decide) (hy P k hg2.symm _ pm_up_hit (ha.tr au))))) (fun t => absurd (by rw [hFu.1, hel]; exact nI_le (Nat.le_refl _) (by omega)) t)
                      · have hno : fa F = none := hms (by
                          rintro (q | q | q)
                          · exact h8 q.2.1
                          · exact hel q.2.2.1
                          · exact q.2.1 (Or.inr hL))
                        refine k_Mod_framed_45 (fun t => absurd (by rw [hFu.1] at t; exact t) (nI_ge (by omega) (by omega))) (fun _ => k_Mod_framed_53 (w_Mod_chunkEnd hFu hb (fun i e' ei he' => ?_) (fun hno' => k_Mod_framed_58 (fun _ => k_Mod_framed_94 (hn hno _ (ha.tr au))) (fun t => absurd (by decide) t))))
                        have := fx_end_ok he'
                        exact k_Mod_framed_58 (fun t => absurd t (nI_pos (by omega))) (fun _ => k_Mod_framed_63 (fun _ => k_Mod_framed_94 (hn hno _ (ha.tr au))) (fun t => absurd rfl t))
                    · rw [s2g] at q
                      have hde : de = none := by
                        rcases hst with h | h | h | h
                        · exact h.2.2
                        · exact h.2.2
                        · omega
                        · omega
                      by_cases hel : e = F.length
                      · have hg2 := hgo (Or.inr (Or.inl ⟨fun q => q.elim h8 hH, Or.inl hel, hel, hL⟩))
                        rw [if_neg hD] at hg2
                        have hn0 : ¬ n = 0 := by omega
                        obtain ⟨n', rfl⟩ := Nat.exists_eq_succ_of_ne_zero hn0
                        unfold fa_go at hg2
                        rw [if_pos (by omega), if_pos hde] at hg2
                        exact hg2.symm
                      · exact hms (by
                          rintro (q | q | q)
                          · exact h8 q.2.1
                          · exact hel q.2.2.1
                          · exact q.2.1 (Or.inr hL))
                  · -- neither DATA nor LAST
                    refine k_Mod_framed_180 (fun z0 => ?_) (fun z0 => k_Mod_framed_185 (k_Mod_framed_217 ?_))
                    · have hH : ¬ by_num F (k + 4) = 1229472850 := by
                        rcases hyy with ⟨rfl, h⟩ | ⟨rfl, h⟩
                        · exact absurd z0 (by decide)
                        · exact h
                      have h8 : ¬ k = 8 := fun q => hH (hsame.mpr (st0.mpr q))
                      have v4 : M 22 (nI k + 4).toNatClampNeg = un_p F (k + 4) := by
                        rw [k4, nI_clamp (by omega)]
                        exact hF.at (by omega)
                      refine k_Mod_framed_190 (by rw [k4]; exact vp_in_nI (by omega) (by decide)) (fun q => ?_) (fun q => k_Mod_framed_204 (hn (hms ?_) M ha))
                      · rw [v4] at q
                        have go : ∀ st', (st' = if st = 2 then 3 else st) → ∀ l4, pm_R S (pm_PC S (d + 2)) Q 139 216 [some (.inr (.inr 19)), some (.inl (nI k)), some (.inl (nI st)), some (.inl (nI e)), l4] [.inl (nI st')] M := by
                          intro st' hs' l4
                          refine k_Mod_framed_216 (k_Mod_framed_217 ?_)
                          by_cases hel : e = F.length
                          · refine bad e st' _ _ (hms ?_) (by rw [hs']; split <;> omega) (by omega) (by omega)
                            rintro (q | q | q)
                            · exact h8 q.2.1
                            · exact hL q.2.2.2
                            · exact q.2.1 (Or.inl hel)
                          · have hg2 := hgo (Or.inr (Or.inr ⟨fun q => q.elim h8 hH, fun q => q.elim hel hL, Or.inr q⟩))
                            rw [if_neg hD] at hg2
                            refine ih e st' de P k M _ _ hg2 (by omega) o2 (fun q => absurd q hel) ?_ hF ha
                            rcases hst with h | h | h | ⟨h1, h2, e', h3, h4⟩
                            · exact absurd h.2.1 h8
                            · rw [if_neg (by omega)] at hs'
                              exact Or.inr (Or.inl ⟨by omega, by omega, h.2.2⟩)
                            · rw [if_pos h.1] at hs'
                              exact Or.inr (Or.inr (Or.inr ⟨hs', by omega, k, by omega, h.2.2⟩))
                            · rw [if_neg (by omega)] at hs'
                              exact Or.inr (Or.inr (Or.inr ⟨by omega, by omega, e', by omega, h4⟩))
                        exact k_Mod_framed_206 (fun t => k_Mod_framed_215 (go st (by rw [if_neg (fun e => t (s2.mpr e))]) _)) (fun t => k_Mod_framed_211 (go 3 (by rw [if_pos (s2.mp (Classical.not_not.mp t))]) _))
                      · rw [v4] at q
                        rintro (r | r | r)
                        · exact h8 r.2.1
                        · exact hL r.2.2.2
                        · exact r.2.2.elim hD q
                    · have hH : by_num F (k + 4) = 1229472850 := by
                        rcases hyy with ⟨rfl, h⟩ | ⟨rfl, h⟩
                        · exact h
                        · exact absurd rfl z0
                      have h8 : k = 8 := st0.mp (hsame.mp hH)
                      have hde : de = none := by
                        rcases hst with h | h | h | h
                        · exact h.2.2
                        · omega
                        · omega
                        · omega
                      by_cases hel : e = F.length
                      · refine bad e 1 _ _ (hms ?_) (by decide) (by omega) (by omega)
                        rintro (q | q | q)
                        · exact q.2.2.2 hel
                        · exact q.1 (Or.inl h8)
                        · exact q.1 (Or.inl h8)
                      · have hg2 := hgo (Or.inl ⟨Or.inl h8, h8, hH, hel⟩)
                        rw [if_neg hD] at hg2
                        exact ih e 1 de P k M _ _ hg2 (by omega) o2 (fun q => absurd q hel) (Or.inr (Or.inl ⟨rfl, by omega, hde⟩)) hF ha
              · rintro (r | r | r)
                · exact q (hf.mpr ⟨fun _ => st0.mpr r.2.1, fun _ => r.2.2.1⟩)
                · exact q (hf.mpr ⟨fun t => absurd (Or.inr t) r.1, fun t => absurd (Or.inl (st0.mp t)) r.1⟩)
                · exact q (hf.mpr ⟨fun t => absurd (Or.inr t) r.1, fun t => absurd (Or.inl (st0.mp t)) r.1⟩)
            refine k_Mod_framed_109 (fun q => k_Mod_framed_121 ?_) (fun q => k_Mod_framed_117 ?_)
            · rw [if_neg (fun e => q (s0.mpr e))] at next
              exact next
            · rw [if_pos (s0.mp (Classical.not_not.mp q))] at next
              exact next
          exact w_Mod_typed (a := 73) (b := 72) (c := 68) (e := 82) (T := 1229472850) hF hb (by omega) (by decide) (by decide) (by decide) (by decide) (by decide) (fun h => key 1 (Or.inl ⟨rfl, h⟩) _) (fun h => key 0 (Or.inr ⟨rfl, h⟩) _)
        · rw [i64_mask, lg_cmp_eq, i64_eq (by have := fx_m_lt hb (i := e - 4) (by omega); omega) (Nat.lt_trans (BitVec.isLt _) (by decide))] at z
          rw [if_neg] at hg
          · exact hg.symm
          · rintro ⟨q, -⟩
            apply z
            have q : by_num F (e - 4) = cr_l (by_sl F (k + 4) (e - 4 - (k + 4))) := q
            obtain ⟨w1, w2⟩ := fx_num hb (i := e - 4) (by omega)
            rw [← q, w1, pk_tn w2]
      · rw [hno k (by omega) rfl] at hg
        exact k_Mod_framed_58 (fun _ => k_Mod_framed_94 (hn hg.symm M ha)) (fun z => absurd (by decide) z)
theorem w_Mod_framed {M : pm_M} (hb : fx_b F) (hF : mo_f M F) (hy : ∀ P ls, fa F = some (P, ls) → ∀ M', M' 19 18 = nI ls → mo_ag [18] [] M M' → Q (some (.inl 1)) M') (hn : fa F = none → ∀ M', mo_ag [18] [] M M' → Q (some (.inl 0)) M') : pm_PC S (d + 3) 139 [.inr (.inr 19)] M Q := by
  have h700 := hF.2.1
  refine e_Mod_framed (k_Mod_framed_0 (fun z => k_Mod_framed_11 ?_) (fun z => k_Mod_framed_9 (hn ?_ M mo_ag.rf)))
  · rw [hF.1, show (8 : Int32) = nI 8 from rfl, nI_leI (by decide) (by omega)] at z
    refine w_mfr_sig hF z (fun hs l1 => k_Mod_framed_40 ?_) (fun hs => hn (by unfold fa; rw [if_neg hs]) M mo_ag.rf) 8 0 (by decide) (fun j hj => absurd hj (Nat.not_lt_zero j))
    refine w_mfr_loop hb hy hn (F.length + 1) 8 0 none [] 0 M _ _ ?_ (by omega) z (fun _ => rfl) (Or.inl ⟨rfl, rfl, rfl⟩) hF mo_ag.rf
    unfold fa
    rw [if_pos hs]
  · rw [hF.1, show (8 : Int32) = nI 8 from rfl, nI_leI (by decide) (by omega)] at z
    unfold fa
    rw [if_neg (fun hs => z (fa_sg8 hs))]
end MOD
