/-! SevenPassImageModel: copies are sought, the data are packed. -/
theorem mb_is.keep {M M' : pm_M} {F0 l : List Int32} {t : Nat} {js ks : List Nat} (h : mb_is M F0 l t) (ha : mo_ag js ks M M') (h6 : 6 ∉ js) (h15 : 15 ∉ js) (hk : 22 ∉ 19 :: ks) : mb_is M' F0 l t := ⟨h.1.keep ha h6 hk, by rw [ha.2 15 h15]; exact h.2.1, h.2.2⟩
section MOD
variable {S d : Nat} {Q : pm_Q} {D : List Int32}
theorem w_mrn_loop {M : pm_M} {q ds : Nat} (hD : mo_d M D) (hq0 : q ≤ D.length) (hds : 1 ≤ ds ∧ ds ≤ q) : ∀ (k s : Nat), s + k = pk_mo D q → (pm_R S (pm_PC S d) Q 128 58 [some (.inr (.inr 19)), some (.inl (nI q)), some (.inl (nI ds)), some (.inl (nI (pk_rn D q ds k s)))] [] M) → pm_R S (pm_PC S d) Q 128 14 [some (.inr (.inr 19)), some (.inl (nI q)), some (.inl (nI ds)), some (.inl (nI s))] [] M := by
  have h300 := hD.2.1
  have hmo : pk_mo D q = min 258 (D.length - q) := rfl
  intro k
  induction k with
  | zero =>
    intro s hs hk
    refine k_Mod_search_14 (fun _ => hk) (fun z => k_Mod_search_21 (fun _ => hk) (fun z2 => absurd ?_ z2))
    rw [show (258 : Int32) = nI 258 from rfl, nI_leI (by decide) (by omega)] at z
    rw [hD.1, nI_add]
    exact nI_le (by omega) (by omega)
  | succ k ih =>
    intro s hs hk
    have e1 : nI q + nI s - nI ds = nI (q + s - ds) := by rw [nI_add, pk_sub (by omega)]
    have e2 : nI q + nI s = nI (q + s) := nI_add _ _
    unfold pk_rn at hk
    refine k_Mod_search_14 (fun z => absurd z (nI_ge (b := 258) (by omega) (by decide))) (fun _ => k_Mod_search_21 (fun z => absurd z ?_) (fun _ => ?_))
    · rw [hD.1, e2]
      exact nI_ge (by omega) (by omega)
    · have v1 : M 25 (nI q + nI s).toNatClampNeg = (D[q + s]?).getD (-1) := by rw [e2, nI_clamp (by omega)]; exact hD.at (by omega)
      have v2 : M 25 (nI q + nI s - nI ds).toNatClampNeg = (D[q + s - ds]?).getD (-1) := by rw [e1, nI_clamp (by omega)]; exact hD.at (by omega)
      refine k_Mod_search_31 (by rw [e2]; exact vp_in_nI (by omega) (by decide)) (by rw [e1]; exact vp_in_nI (by omega) (by decide)) (fun z => ?_) (fun z => k_Mod_search_52 ?_)
      · rw [v1, v2] at z
        rw [if_neg z] at hk
        exact hk
      · rw [v1, v2] at z
        rw [if_pos (Classical.not_not.mp z)] at hk
        rw [nI_1]
        exact ih (s + 1) (by omega) hk
theorem w_msr_loop {q : Nat} (hq0 : q ≤ D.length) : ∀ (k ds : Nat) (M : pm_M) (p : Nat × Nat) (l3 : Option pm_V), ds + k = q + 1 → 1 ≤ ds → p.1 ≤ pk_mo D q → mo_d M D → M 19 24 = nI p.1 → (0 < p.1 → M 19 25 = nI p.2) → (∀ M', M' 19 24 = nI (pk_sr D q (pk_mo D q) k ds p).1 → (0 < (pk_sr D q (pk_mo D q) k ds p).1 → M' 19 25 = nI (pk_sr D q (pk_mo D q) k ds p).2) → mo_ag [24, 25] [] M M' → Q none M') → pm_R S (pm_PC S d) Q 128 7 [some (.inr (.inr 19)), some (.inl (nI q)), some (.inl (nI ds)), l3] [] M := by
  have hmo : pk_mo D q = min 258 (D.length - q) := rfl
  intro k
  induction k with
  | zero =>
    intro ds M p l3 hds h1 hp hD h24 h25 hq
    have h300 := hD.2.1
    exact k_Mod_search_7 (fun _ => k_Mod_search_104 (hq M h24 h25 mo_ag.rf)) (fun z => absurd (nI_lt (by omega) (by omega)) z)
  | succ k ih =>
    intro ds M p l3 hds h1 hp hD h24 h25 hq
    have h300 := hD.2.1
    have hrn := pk_rn_le D q ds (pk_mo D q) 0
    refine k_Mod_search_7 (fun z => absurd z (nI_nlt (by omega) (by omega))) (fun _ => k_Mod_search_12 (w_mrn_loop hD hq0 ⟨h1, by omega⟩ (pk_mo D q) 0 (Nat.zero_add _) ?_))
    unfold pk_sr at hq
    generalize pk_rn D q ds (pk_mo D q) 0 = rn at hq hrn ⊢
    refine k_Mod_search_58 (fun z => k_Mod_search_71 (k_Mod_search_75 (fun _ => k_Mod_search_91 (k_Mod_search_95 ?_)) (fun z2 => absurd z z2))) (fun z => k_Mod_search_67 (k_Mod_search_75 (fun z2 => absurd z2 z) (fun _ => k_Mod_search_87 (k_Mod_search_95 ?_))))
    · rw [h24, nI_leI (by omega) (by omega)] at z
      rw [if_neg (by omega)] at hq
      rw [nI_1]
      have a : mo_ag [24, 25] [] M (pm_up (pm_up M 19 25 (M 19 25)) 19 24 ((pm_up M 19 25 (M 19 25)) 19 24)) := (mo_ag.f (by decide)).tr (mo_ag.f (by decide))
      refine ih (ds + 1) _ p _ (by omega) (by omega) hp (hD.keep a (by decide) (by decide)) ?_ (fun hp0 => ?_) (fun M' q1 q2 q3 => hq M' q1 q2 (a.tr q3))
      · rw [pm_up_hit, pm_up_off (Or.inr (by decide))]
        exact h24
      · rw [pm_up_off (Or.inr (by decide)), pm_up_hit]
        exact h25 hp0
    · rw [h24, nI_leI (by omega) (by omega)] at z
      rw [if_pos (by omega)] at hq
      rw [nI_1]
      have a : mo_ag [24, 25] [] M (pm_up (pm_up M 19 25 (nI ds)) 19 24 (nI rn)) := (mo_ag.f (by decide)).tr (mo_ag.f (by decide))
      refine ih (ds + 1) _ (rn, ds) _ (by omega) (by omega) (show rn ≤ _ by omega) (hD.keep a (by decide) (by decide)) pm_up_hit (fun hp0 => ?_) (fun M' q1 q2 q3 => hq M' q1 q2 (a.tr q3))
      rw [pm_up_off (Or.inr (by decide)), pm_up_hit]
theorem w_Mod_search {M : pm_M} {q : Nat} (hD : mo_d M D) (hq0 : q ≤ D.length) (hq : ∀ M', M' 19 24 = nI (pk_fi D q).1 → (0 < (pk_fi D q).1 → M' 19 25 = nI (pk_fi D q).2) → mo_ag [24, 25] [] M M' → Q none M') : pm_PC S (d + 1) 128 [.inr (.inr 19), .inl (nI q)] M Q := by
  have a : mo_ag [24, 25] [] M (pm_up M 19 24 0) := mo_ag.f (by decide)
  refine e_Mod_search (k_Mod_search_0 (w_msr_loop hq0 q 1 _ (0, 0) _ (by omega) (by decide) (Nat.zero_le _) (hD.keep a (by decide) (by decide)) pm_up_hit (fun h => absurd h (Nat.lt_irrefl 0)) (fun M' q1 q2 q3 => hq M' q1 q2 (a.tr q3))))
theorem w_mpk_loop {F0 : List Int32} (hD3 : D.length ≤ 300) : ∀ (k q : Nat) (M : pm_M) (l : List Int32) (t m : Nat), D.length - q < k → q ≤ D.length → mo_d M D → mb_is M F0 l t → F0.length + (t + 9 * (D.length - q) + 30) / 8 ≤ 690 → M 19 10 = nI m → (∀ M', mo_d M' D → mb_is M' F0 (bi_ps l t (pk_bs D k q)) (t + (pk_bs D k q).length) → M' 19 10 = nI (m + pk_cc D k q) → mo_ag [6, 10, 15, 24, 25] [22] M M' → ∀ x1, pm_R S (pm_PC S (d + 5)) Q 129 99 [some (.inr (.inr 19)), some (.inl x1)] [] M') → pm_R S (pm_PC S (d + 5)) Q 129 30 [some (.inr (.inr 19)), some (.inl (nI q))] [] M := by
  intro k
  induction k with
  | zero => intro q M l t m hk; omega
  | succ k ih =>
    intro q M l t m hk hq0 hD hl hc hm hq
    unfold pk_bs pk_cc at hq
    refine k_Mod_packData_30 (fun z => ?_) (fun z => k_Mod_packData_38 ?_)
    · rw [hD.1, nI_leI (by omega) (by omega)] at z
      rw [if_neg (by omega), if_neg (by omega)] at hq
      exact hq M hD hl hm mo_ag.rf _
    · rw [hD.1, nI_leI (by omega) (by omega)] at z
      have hlt : q < D.length := by omega
      rw [if_pos hlt, if_pos hlt] at hq
      refine w_Mod_search hD hq0 (fun M1 g1 g2 a1 => ?_)
      have hmo : pk_mo D q = min 258 (D.length - q) := rfl
      have hle : (pk_fi D q).1 ≤ pk_mo D q := pk_sr_le D q _ q 1 (0, 0) (Nat.zero_le _)
      have A1 : mo_ag [6, 10, 15, 24, 25] [22] M M1 := a1.wd (by decide) (by decide)
      have hD1 := hD.keep a1 (by decide) (by decide)
      have hl1 := hl.keep a1 (by decide) (by decide) (by decide)
      have hm1 : M1 19 10 = nI m := by rw [a1.2 10 (by decide)]; exact hm
      refine k_Mod_packData_43 (fun z2 => ?_) (fun z2 => k_Mod_packData_51 ?_)
      · rw [g1, show (3 : Int32) = nI 3 from rfl, nI_ltI (by omega) (by decide)] at z2
        rw [if_neg (by omega), if_neg (by omega)] at hq
        refine k_Mod_packData_83 (vp_in_nI (by omega) (by decide)) ?_
        rw [nI_clamp (by omega), hD1.at hlt]
        have hcb := pk_cb_len ((D[q]?).getD (-1))
        refine w_Mod_code hl1 (by omega) (fun M2 q1 q2 => k_Mod_packData_93 ?_)
        rw [nI_1]
        have A2 : mo_ag [6, 10, 15, 24, 25] [22] M M2 := A1.tr (q2.wd (by decide) (by decide))
        refine ih (q + 1) M2 _ _ m (by omega) (by omega) (hD1.keep q2 (by decide) (by decide)) q1 (by omega) (by rw [q2.2 10 (by decide)]; exact hm1) (fun M3 r1 r2 r3 r4 x1 => hq M3 r1 ?_ r3 (A2.tr r4) x1)
        rw [bi_ps_app, List.length_append, ← Nat.add_assoc]
        exact r2
      · rw [g1, show (3 : Int32) = nI 3 from rfl, nI_ltI (by omega) (by decide)] at z2
        have h3 : 3 ≤ (pk_fi D q).1 := by omega
        rw [if_pos h3, if_pos h3] at hq
        obtain ⟨a, b, c, e⟩ := pk_fi_ok hlt h3
        rw [g1, g2 (by omega)]
        have hcb := pk_cp_len h3 b c (show (pk_fi D q).2 < 301 by omega)
        refine w_Mod_copy ⟨h3, b⟩ ⟨c, by omega⟩ hl1 (by omega) (fun M2 q1 q2 => k_Mod_packData_63 ?_)
        rw [q2.2 24 (by decide), g1, nI_add, q2.2 10 (by decide), hm1, nI_1]
        have a3 : mo_ag [10] [] M2 (pm_up M2 19 10 (nI (m + 1))) := mo_ag.f (by decide)
        have A3 : mo_ag [6, 10, 15, 24, 25] [22] M (pm_up M2 19 10 (nI (m + 1))) := (A1.tr (q2.wd (by decide) (by decide))).tr (a3.wd (by decide) (by decide))
        refine ih (q + (pk_fi D q).1) _ _ _ (m + 1) (by omega) (by omega) ((hD1.keep q2 (by decide) (by decide)).keep a3 (by decide) (by decide)) (q1.keep a3 (by decide) (by decide) (by decide)) (by omega) pm_up_hit (fun M3 r1 r2 r3 r4 x1 => hq M3 r1 ?_ ?_ (A3.tr r4) x1)
        · rw [bi_ps_app, List.length_append, ← Nat.add_assoc]
          exact r2
        · rw [r3]
          congr 1
          omega
theorem w_Mod_packData {M : pm_M} {F0 : List Int32} (hb : fx_b D) (hD : mo_d M D) (hF : mo_f M F0) (hF0 : F0.length ≤ 100) (hq : ∀ M', mo_f M' (F0 ++ pk_of D) → M' 19 10 = nI (pk_cc D (D.length + 1) 0) → mo_ag [6, 10, 15, 24, 25] [22] M M' → Q none M') : pm_PC S (d + 6) 129 [.inr (.inr 19)] M Q := by
  have hD3 := hD.2.1
  refine e_Mod_packData (k_Mod_packData_0 (w_Mod_put hF (by omega) (fun M1 f1 j1 a1 => k_Mod_packData_6 (w_Mod_put f1 (by simp; omega) (fun M2 f2 j2 a2 => k_Mod_packData_11 ?_)))))
  have A2 : mo_ag [6] [22] M M2 := (mo_cv j1 a1).tr (mo_cv j2 a2)
  have a3 : mo_ag [10, 15] [] M2 (pm_up (pm_up M2 19 15 0) 19 10 0) := (mo_ag.f (by decide)).tr (mo_ag.f (by decide))
  have A3 : mo_ag [6, 10, 15, 24, 25] [22] M (pm_up (pm_up M2 19 15 0) 19 10 0) := (A2.wd (by decide) (by decide)).tr (a3.wd (by decide) (by decide))
  have f3 : mb_is (pm_up (pm_up M2 19 15 0) 19 10 0) F0 [120, 1] 16 := by
    refine ⟨?_, ?_, rfl, fun h => absurd rfl h⟩
    · have := f2.keep a3 (by decide) (by decide)
      rw [List.append_assoc] at this
      exact this
    · rw [pm_up_off (Or.inr (by decide)), pm_up_hit]
      rfl
  refine w_Mod_bits_lo (n := 3) (by decide) f3 (by omega) (fun M4 g4 a4 => k_Mod_packData_28 ?_)
  have A4 : mo_ag [6, 10, 15, 24, 25] [22] M M4 := A3.tr (a4.wd (by decide) (by decide))
  have hbs := pk_bs_len hD3 (D.length + 1) 0 (Nat.zero_le _)
  refine w_mpk_loop hD3 (D.length + 1) 0 M4 _ _ 0 (by omega) (Nat.zero_le _) (hD.keep A4 (by decide) (by decide)) g4 (by omega) ?_ (fun M5 d5 g5 c5 a5 x1 => k_Mod_packData_99 ?_)
  · rw [a4.2 10 (by decide), pm_up_hit]
    rfl
  · have hcb := pk_cb_len 256
    refine w_Mod_code g5 (by omega) (fun M6 g6 a6 => k_Mod_packData_106 (w_Mod_sum (d5.keep a6 (by decide) (by decide)) hb (k_Mod_packData_111 ?_)))
    have hlen := g6.2.2.1
    refine w_Mod_put4 g6.1 (by rw [List.length_append]; omega) (fun M7 f7 a7 => k_Mod_packData_114 (hq M7 ?_ ?_ ?_))
    · have e : bi_ps (bi_ps (bi_ps [120, 1] 16 (bi_lo 3 3)) (16 + 3) (pk_bs D (D.length + 1) 0)) (16 + 3 + (pk_bs D (D.length + 1) 0).length) (pk_cb 256) = bi_ps [120, 1] 16 (pk_bits D) := by
        have e3 : pk_bits D = bi_lo 3 3 ++ (pk_bs D (D.length + 1) 0 ++ pk_cb 256) := by
          unfold pk_bits
          rw [← List.append_assoc]
          rfl
        rw [e3, bi_ps_app, bi_ps_app, bi_lo_len]
      rw [e, List.append_assoc] at f7
      exact f7
    · rw [a7.2 10 (by decide), a6.2 10 (by decide), c5, Nat.zero_add]
    · exact ((A4.tr a5).tr (a6.wd (by decide) (by decide))).tr (a7.wd (by decide) (by decide))
end MOD
