/-! SevenPassImageModel: rebuilt, read. -/
section MOD
variable {S d : Nat} {Q : pm_Q} {kd dp w h : Nat} {s : Int32}
theorem w_mre_rows {p : Nat} {D : List Int32} (hok : pc_ok kd dp w h) (hp : p < 8) (hD : D.length ≤ 300) (hb : fx_b D) : ∀ (k r q : Nat) (M : pm_M) (u : Nat → Int32) (t : (Nat → Nat → Nat → Int32) × (Nat → Int32)) (l7 l8 l9 l10 l11 l12 : Option pm_V), r + k = ps_rw p w h → q + k * (1 + ps_sz p w (pc_pp kd) dp) ≤ D.length → (r = 0 → u = fun _ => 0) → (r = 0 ∨ ps_sz p w (pc_pp kd) dp ≤ q) → (∀ i, q ≤ i → i < D.length → M 25 i = un_p D i) → (r ≠ 0 → ∀ i, i < ps_sz p w (pc_pp kd) dp → M 25 (q - ps_sz p w (pc_pp kd) dp + i) = u i) → mo_h M kd dp w h s → mo_s M 21 kd w h t.1 → (∀ i, i < 5 → M 24 i = t.2 i) → (fi_rows D (ps_sz p w (pc_pp kd) dp) k q → ∀ M' l6 l7 l8 l9 l10 l11 l12, (∀ i, q + k * (1 + ps_sz p w (pc_pp kd) dp) ≤ i → i < D.length → M' 25 i = un_p D i) → mo_s M' 21 kd w h (de_rows kd dp w D p k r q u t).1 → (∀ i, i < 5 → M' 24 i = (de_rows kd dp w D p k r q u t).2 i) → mo_ag [] [21, 24, 25] M M' → pm_R S (pm_PC S (d + 3)) Q 151 275 [some (.inr (.inr 19)), some (.inl (nI (pc_pp kd))), some (.inl (nI (ps_un (pc_pp kd) dp))), some (.inl (nI (q + k * (1 + ps_sz p w (pc_pp kd) dp)))), some (.inl (nI p)), some (.inl (nI (ps_sz p w (pc_pp kd) dp))), l6, l7, l8, l9, l10, l11, l12] [] M') → (¬ fi_rows D (ps_sz p w (pc_pp kd) dp) k q → ∀ M', mo_ag [] [21, 24, 25] M M' → Q (some (.inl 0)) M') → pm_R S (pm_PC S (d + 3)) Q 151 72 [some (.inr (.inr 19)), some (.inl (nI (pc_pp kd))), some (.inl (nI (ps_un (pc_pp kd) dp))), some (.inl (nI q)), some (.inl (nI p)), some (.inl (nI (ps_sz p w (pc_pp kd) dp))), some (.inl (nI r)), l7, l8, l9, l10, l11, l12] [] M := by
  have hw := hok.2.1
  have hh2 := hok.2.2
  have hsz := ps_sz_le hok hp
  have hrw := ps_rw_lt (w := w) hp (show h < 9 by omega)
  intro k
  induction k with
  | zero =>
    intro r q M u t l7 l8 l9 l10 l11 l12 hr hq9 hu0 hq0 h25 hup hh hs h24 hy hn
    refine k_Mod_rebuilt_72 ?_
    rw [hh.2.2.1, hh.2.2.2.1]
    rw [Nat.zero_mul, Nat.add_zero] at hy
    exact w_Mod_lines hp (by omega) (by omega) (k_Mod_rebuilt_87 (fun _ => hy trivial M _ _ _ _ _ _ _ h25 hs h24 mo_ag.rf) (fun z => absurd (nI_le (by omega) (by omega)) z))
  | succ k ih =>
    intro r q M u t l7 l8 l9 l10 l11 l12 hr hq9 hu0 hq0 h25 hup hh hs h24 hy hn
    have hmul : (k + 1) * (1 + ps_sz p w (pc_pp kd) dp) = k * (1 + ps_sz p w (pc_pp kd) dp) + (1 + ps_sz p w (pc_pp kd) dp) := by rw [Nat.add_mul, Nat.one_mul]
    have hqD : q < D.length := by omega
    obtain ⟨b1, b2⟩ := un_p_b hb hqD
    have eq25 : M 25 (nI q).toNatClampNeg = nI (fx_n D q) := by
      rw [nI_clamp (by omega), h25 q (Nat.le_refl _) hqD]
      exact b1
    have edf : de_f D q = fx_n D q := by
      unfold de_f
      rw [b1]
      exact nI_clamp (by omega)
    refine k_Mod_rebuilt_72 ?_
    rw [hh.2.2.1, hh.2.2.2.1]
    refine w_Mod_lines hp (by omega) (by omega) (k_Mod_rebuilt_87 (fun z => absurd z (nI_ge (by omega) (by omega))) (fun _ => k_Mod_rebuilt_90 (vp_in_nI (by omega) (by decide)) (fun z => ?_) (fun z => k_Mod_rebuilt_104 (hn ?_ M mo_ag.rf))))
    · rw [eq25, show (4 : Int32) = nI 4 from rfl, nI_leI (by omega) (by decide)] at z
      rw [eq25]
      refine k_Mod_rebuilt_106 (vp_in_nI (by omega) (by decide)) (vp_in_nI (by omega) (by decide)) ?_
      rw [nI_clamp (by omega), h24 _ (by omega)]
      have hfl : ¬ un_p D q < 0 ∧ un_p D q < 5 := by
        rw [b1]
        refine ⟨nI_pos (by omega), ?_⟩
        rw [show (5 : Int32) = nI 5 from rfl, nI_ltI (by omega) (by decide)]
        omega
      have a1 : mo_ag [] [21, 24, 25] M (pm_up M 24 (fx_n D q) (t.2 (fx_n D q) + 1)) := mo_ag.p (by decide) (by decide)
      have a1' : mo_ag [] [24] M (pm_up M 24 (fx_n D q) (t.2 (fx_n D q) + 1)) := mo_ag.p (by decide) (by decide)
      have p25 : ∀ i, (pm_up M 24 (fx_n D q) (t.2 (fx_n D q) + 1)) 25 i = M 25 i := fun i => pm_up_off (Or.inl (by decide))
      refine w_mrr_loop (d := d + 1) hok hp (by omega) (by omega) hq0 (by omega) hD hu0 _ 0 _ _ _ _ _ (Nat.zero_add _) (fun i h1 h2 => by rw [p25]; exact h25 i (by omega) h2) (fun i hi => absurd hi (Nat.not_lt_zero i)) (fun hr0 i hi => by rw [p25]; exact hup hr0 i hi) (fun M2 l8 l9 l10 l11 l12 d2 g2 a2 => k_Mod_rebuilt_251 ?_)
      rw [nI_1]
      have h2 := (hh.keep a1).keep a2
      have s2 : mo_s M2 21 kd w h t.1 := (hs.keep a1' (by decide)).keep a2 (by decide)
      have eg : ∀ i, i < ps_sz p w (pc_pp kd) dp → M2 25 (q + 1 + i) = de_g kd dp w D p q u i := by
        intro i hi
        unfold de_g
        rw [edf]
        exact g2 i hi
      refine w_Mod_samples hok hp (show r < _ by omega) (by omega) h2 s2 eg (fun M3 s3 a3 => k_Mod_rebuilt_262 ?_)
      rw [nI_1, nI_1, nI_add]
      have A3 : mo_ag [] [21, 24, 25] M M3 := (a1.tr (a2.wd (by decide) (by decide))).tr (a3.wd (by decide) (by decide))
      have e25 : ∀ i, M3 25 i = M2 25 i := fun i => by rw [a3.pl (show (25 : Nat) ∉ _ by decide)]
      have eq2 : q + 1 + ps_sz p w (pc_pp kd) dp = q + (1 + ps_sz p w (pc_pp kd) dp) := by omega
      rw [eq2]
      unfold de_rows at hy
      refine ih (r + 1) (q + (1 + ps_sz p w (pc_pp kd) dp)) M3 (de_g kd dp w D p q u) (de_ss kd dp (de_g kd dp w D p q u) p r (ps_pt p w * pc_pp kd) 0 t.1, upd t.2 (de_f D q) (t.2 (de_f D q) + 1)) _ _ _ _ _ _ (by omega) (by omega) (fun e => absurd e (by omega)) (Or.inr (by omega)) (fun i hi1 hi2 => by rw [e25]; exact d2 i (by omega) hi2) (fun _ i hi => ?_) (hh.keep A3) s3 (fun i hi => ?_) (fun hfi M' l6 l7 l8 l9 l10 l11 l12 q1 q2 q3 q4 => ?_) (fun hfi M' q1 => hn (fun w => hfi w.2) M' (A3.tr q1))
      · rw [e25, show q + (1 + ps_sz p w (pc_pp kd) dp) - ps_sz p w (pc_pp kd) dp + i = q + 1 + i by omega]
        exact eg i hi
      · have e24 : M3 24 i = (pm_up M 24 (fx_n D q) (t.2 (fx_n D q) + 1)) 24 i := by
          rw [a3.pl (show (24 : Nat) ∉ _ by decide), a2.pl (show (24 : Nat) ∉ _ by decide)]
        rw [e24, edf]
        show _ = upd t.2 (fx_n D q) _ i
        by_cases e : i = fx_n D q
        · rw [e, pm_up_hit, pk_us]
        · rw [pm_up_off (Or.inr e), pk_un e]
          exact h24 i hi
      · have e3 : q + (1 + ps_sz p w (pc_pp kd) dp) + k * (1 + ps_sz p w (pc_pp kd) dp) = q + (k + 1) * (1 + ps_sz p w (pc_pp kd) dp) := by omega
        rw [e3] at q1 ⊢
        exact hy ⟨hfl, hfi⟩ M' l6 l7 l8 l9 l10 l11 l12 q1 q2 q3 (A3.tr q4)
    · rw [eq25, show (4 : Int32) = nI 4 from rfl, nI_leI (by omega) (by decide)] at z
      intro hfi
      have := hfi.1.2
      rw [b1, show (5 : Int32) = nI 5 from rfl, nI_ltI (by omega) (by decide)] at this
      omega
theorem w_mre_all {z : Nat} {D : List Int32} (hok : pc_ok kd dp w h) (hD : D.length ≤ 300) (hb : fx_b D) (hz : (s = 0 ∧ z = 7) ∨ (¬ s = 0 ∧ z = 6)) : ∀ (k p q : Nat) (M : pm_M) (t : (Nat → Nat → Nat → Int32) × (Nat → Int32)) (l5 l6 l7 l8 l9 l10 l11 l12 : Option pm_V), p + k = z + 1 → q + en_tl kd dp w h k p ≤ D.length → (∀ i, q ≤ i → i < D.length → M 25 i = un_p D i) → mo_h M kd dp w h s → mo_s M 21 kd w h t.1 → (∀ i, i < 5 → M 24 i = t.2 i) → (fi_all D kd dp w h k p q → ∀ M', mo_s M' 21 kd w h (de_all kd dp w h D k p q t).1 → (∀ i, i < 5 → M' 24 i = (de_all kd dp w h D k p q t).2 i) → mo_ag [] [21, 24, 25] M M' → Q (some (.inl 1)) M') → (¬ fi_all D kd dp w h k p q → ∀ M', mo_ag [] [21, 24, 25] M M' → Q (some (.inl 0)) M') → pm_R S (pm_PC S (d + 3)) Q 151 34 [some (.inr (.inr 19)), some (.inl (nI (pc_pp kd))), some (.inl (nI (ps_un (pc_pp kd) dp))), some (.inl (nI q)), some (.inl (nI p)), l5, l6, l7, l8, l9, l10, l11, l12] [] M := by
  have hw := hok.2.1
  have hh2 := hok.2.2
  have hpp := pc_pp_le kd
  have hdp : dp ≤ 8 := by rcases pc_dp hok with rfl | rfl | rfl | rfl <;> decide
  intro k
  induction k with
  | zero =>
    intro p q M t l5 l6 l7 l8 l9 l10 l11 l12 hp hq9 h25 hh hs h24 hy hn
    have fin : ∀ v, v = nI (z + 1) → pm_R S (pm_PC S (d + 3)) Q 151 50 [some (.inr (.inr 19)), some (.inl (nI (pc_pp kd))), some (.inl (nI (ps_un (pc_pp kd) dp))), some (.inl (nI q)), some (.inl (nI p)), l5, l6, l7, l8, l9, l10, l11, l12] [.inl v, .inl (nI p)] M := by
      rintro v rfl
      exact k_Mod_rebuilt_50 (fun _ => k_Mod_rebuilt_281 (hy trivial M hs h24 mo_ag.rf)) (fun t => absurd (nI_le (by omega) (by omega)) t)
    rcases hz with ⟨h1, rfl⟩ | ⟨h1, rfl⟩
    · exact k_Mod_rebuilt_34 (fun _ => k_Mod_rebuilt_48 (fin _ rfl)) (fun t => absurd (by rw [hh.2.2.2.2]; exact h1) t)
    · exact k_Mod_rebuilt_34 (fun t => absurd (by rw [hh.2.2.2.2] at t; exact t) h1) (fun _ => k_Mod_rebuilt_43 (fin _ rfl))
  | succ k ih =>
    intro p q M t l5 l6 l7 l8 l9 l10 l11 l12 hp hq9 h25 hh hs h24 hy hn
    unfold en_tl at hq9
    unfold de_all at hy
    unfold fi_all at hy hn
    have hp8 : p < 8 := by omega
    have fin : ∀ v, v = nI (z + 1) → pm_R S (pm_PC S (d + 3)) Q 151 50 [some (.inr (.inr 19)), some (.inl (nI (pc_pp kd))), some (.inl (nI (ps_un (pc_pp kd) dp))), some (.inl (nI q)), some (.inl (nI p)), l5, l6, l7, l8, l9, l10, l11, l12] [.inl v, .inl (nI p)] M := by
      rintro v rfl
      refine k_Mod_rebuilt_50 (fun t => absurd t (nI_ge (by omega) (by omega))) (fun _ => k_Mod_rebuilt_53 ?_)
      rw [hh.2.2.1, hh.2.1]
      refine w_Mod_lineBytes hp8 (by omega) hpp.2 hdp (k_Mod_rebuilt_67 ?_)
      refine w_mre_rows hok hp8 hD hb (ps_rw p w h) 0 q M (fun _ => 0) t _ _ _ _ _ _ (by omega) (by omega) (fun _ => rfl) (Or.inl rfl) h25 (fun e => absurd rfl e) hh hs h24 (fun hfi M2 l6 l7 l8 l9 l10 l11 l12 q1 q2 q3 q4 => k_Mod_rebuilt_275 ?_) (fun hfi M2 q1 => hn (fun w => hfi w.1) M2 q1)
      rw [nI_1]
      exact ih (p + 1) _ M2 _ _ _ _ _ _ _ _ _ (by omega) (by omega) q1 (hh.keep q4) q2 q3 (fun hf2 M' t1 t2 t3 => hy ⟨hfi, hf2⟩ M' t1 t2 (q4.tr t3)) (fun hf2 M' t1 => hn (fun w => hf2 w.2) M' (q4.tr t1))
    rcases hz with ⟨h1, rfl⟩ | ⟨h1, rfl⟩
    · exact k_Mod_rebuilt_34 (fun _ => k_Mod_rebuilt_48 (fin _ rfl)) (fun t => absurd (by rw [hh.2.2.2.2]; exact h1) t)
    · exact k_Mod_rebuilt_34 (fun t => absurd (by rw [hh.2.2.2.2] at t; exact t) h1) (fun _ => k_Mod_rebuilt_43 (fin _ rfl))
/-- samples and rows of each filter, upon what was there -/
def de_on (kd dp w h : Nat) (D : List Int32) (s : Int32) (f : Nat → Nat → Nat → Int32) : (Nat → Nat → Nat → Int32) × (Nat → Int32) := if s = 0 then de_all kd dp w h D 1 7 0 (f, fun _ => 0) else de_all kd dp w h D 7 0 0 (f, fun _ => 0)
theorem w_Mod_rebuilt {D : List Int32} {M : pm_M} {f : Nat → Nat → Nat → Int32} (hok : pc_ok kd dp w h) (hb : fx_b D) (hD : mo_d M D) (hlen : en_tt kd dp w h s = D.length) (hh : mo_h M kd dp w h s) (hs : mo_s M 21 kd w h f) (h24 : ∀ i, i < 5 → M 24 i = 0) (hy : fi_of D kd dp w h s → ∀ M', mo_s M' 21 kd w h (de_on kd dp w h D s f).1 → (∀ i, i < 5 → M' 24 i = (de_on kd dp w h D s f).2 i) → mo_ag [] [21, 24, 25] M M' → Q (some (.inl 1)) M') (hn : ¬ fi_of D kd dp w h s → ∀ M', mo_ag [] [21, 24, 25] M M' → Q (some (.inl 0)) M') : pm_PC S (d + 4) 151 [.inr (.inr 19)] M Q := by
  have hpp := pc_pp_le kd
  have hdp : dp ≤ 8 := by rcases pc_dp hok with rfl | rfl | rfl | rfl <;> decide
  have h25 : ∀ i, 0 ≤ i → i < D.length → M 25 i = un_p D i := fun i _ hi => hD.at hi
  refine e_Mod_rebuilt (k_Mod_rebuilt_0 ?_)
  rw [hh.1]
  refine w_parts_nI (d := d + 2) (pc_kd hok) (k_Mod_rebuilt_7 ?_)
  rw [hh.2.1]
  refine w_Mod_unit (d := d + 2) hpp.2 hdp (k_Mod_rebuilt_16 (fun e => k_Mod_rebuilt_30 (k_Mod_rebuilt_32 ?_)) (fun e => k_Mod_rebuilt_26 (k_Mod_rebuilt_32 ?_)))
  · rw [hh.2.2.2.2] at e
    unfold fi_of at hy hn
    unfold de_on at hy
    unfold en_tt at hlen
    rw [if_pos e] at hy hn hlen
    exact w_mre_all (z := 7) hok hD.2.1 hb (Or.inl ⟨e, rfl⟩) 1 7 0 M (f, fun _ => 0) _ _ _ _ _ _ _ _ (by decide) (by omega) h25 hh hs h24 (fun hfi M' t1 t2 t3 => hy ⟨hfi, hlen⟩ M' (by rw [if_pos e]; exact t1) (by rw [if_pos e]; exact t2) t3) (fun hfi M' t1 => hn (fun w => hfi w.1) M' t1)
  · rw [hh.2.2.2.2] at e
    unfold fi_of at hy hn
    unfold de_on at hy
    unfold en_tt at hlen
    rw [if_neg e] at hy hn hlen
    exact w_mre_all (z := 6) hok hD.2.1 hb (Or.inr ⟨e, rfl⟩) 7 0 0 M (f, fun _ => 0) _ _ _ _ _ _ _ _ (by decide) (by omega) h25 hh hs h24 (fun hfi M' t1 t2 t3 => hy ⟨hfi, hlen⟩ M' (by rw [if_neg e]; exact t1) (by rw [if_neg e]; exact t2) t3) (fun hfi M' t1 => hn (fun w => hfi w.1) M' t1)
end MOD
