/-! SevenPassImageModel: rowsBytes, samples, a row is rebuilt. -/
/-- the head that is being read -/
def mo_h (M : pm_M) (kd dp w h : Nat) (s : Int32) : Prop := M 19 19 = nI kd ∧ M 19 20 = nI dp ∧ M 19 21 = nI w ∧ M 19 22 = nI h ∧ M 19 23 = s
theorem mo_h.keep {M M' : pm_M} {kd dp w h : Nat} {s : Int32} {ks : List Nat} (hh : mo_h M kd dp w h s) (ha : mo_ag [] ks M M') : mo_h M' kd dp w h s := by
  unfold mo_h
  rw [ha.2 19 (by decide), ha.2 20 (by decide), ha.2 21 (by decide), ha.2 22 (by decide), ha.2 23 (by decide)]
  exact hh
section MOD
variable {S d : Nat} {Q : pm_Q} {kd dp w h : Nat} {s : Int32}
theorem w_mrb_loop {M : pm_M} {z : Nat} (hok : pc_ok kd dp w h) (hh : mo_h M kd dp w h s) (hz : (s = 0 ∧ z = 7) ∨ (¬ s = 0 ∧ z = 6)) : ∀ (k p a : Nat), p + k = z + 1 → a + en_tl kd dp w h k p < 2 ^ 30 → Q (some (.inl (nI (a + en_tl kd dp w h k p)))) M → pm_R S (pm_PC S (d + 3)) Q 149 16 [some (.inr (.inr 19)), some (.inl (nI a)), some (.inl (nI p))] [] M := by
  have hw := hok.2.1
  have hh2 := hok.2.2
  have hpp := pc_pp_le kd
  have hdp : dp ≤ 8 := by rcases pc_dp hok with rfl | rfl | rfl | rfl <;> decide
  have lim : ∀ {p a : Nat}, (∀ v, v = nI (z + 1) → pm_R S (pm_PC S (d + 3)) Q 149 31 [some (.inr (.inr 19)), some (.inl (nI a)), some (.inl (nI p))] [.inl v, .inl (nI p)] M) → pm_R S (pm_PC S (d + 3)) Q 149 16 [some (.inr (.inr 19)), some (.inl (nI a)), some (.inl (nI p))] [] M := by
    intro p a hv
    rcases hz with ⟨h1, rfl⟩ | ⟨h1, rfl⟩
    · exact k_Mod_rowsBytes_16 (fun _ => k_Mod_rowsBytes_29 (hv _ rfl)) (fun t => absurd (by rw [hh.2.2.2.2]; exact h1) t)
    · exact k_Mod_rowsBytes_16 (fun t => absurd (by rw [hh.2.2.2.2] at t; exact t) h1) (fun _ => k_Mod_rowsBytes_24 (hv _ rfl))
  intro k
  induction k with
  | zero =>
    intro p a hp hb hq
    refine lim (fun v ev => ?_)
    subst ev
    exact k_Mod_rowsBytes_31 (fun _ => k_Mod_rowsBytes_77 hq) (fun t => absurd (nI_le (by omega) (by omega)) t)
  | succ k ih =>
    intro p a hp hb hq
    unfold en_tl at hb hq
    refine lim (fun v ev => ?_)
    subst ev
    refine k_Mod_rowsBytes_31 (fun t => absurd t (nI_ge (by omega) (by omega))) (fun _ => k_Mod_rowsBytes_34 ?_)
    rw [hh.2.2.1, hh.2.2.2.1]
    refine w_Mod_lines (by omega) (by omega) (by omega) (k_Mod_rowsBytes_47 ?_)
    rw [hh.1, hh.2.2.1]
    refine w_parts_nI (d := d + 2) (pc_kd hok) (k_Mod_rowsBytes_60 ?_)
    rw [hh.2.1]
    refine w_Mod_lineBytes (by omega) (by omega) hpp.2 hdp (k_Mod_rowsBytes_67 ?_)
    rw [show (1 : Int32) = nI 1 from rfl, nI_add, pk_mul, nI_add, nI_add]
    refine ih (p + 1) _ (by omega) (by omega) ?_
    rw [← Nat.add_assoc] at hq
    exact hq
def en_tt (kd dp w h : Nat) (s : Int32) : Nat := if s = 0 then en_tl kd dp w h 1 7 else en_tl kd dp w h 7 0
theorem en_tt_le (hok : pc_ok kd dp w h) (s : Int32) : en_tt kd dp w h s ≤ 271 := by
  have := en_tl_ok hok
  unfold en_tt
  split <;> omega
theorem w_Mod_rowsBytes {M : pm_M} (hok : pc_ok kd dp w h) (hh : mo_h M kd dp w h s) (hq : Q (some (.inl (nI (en_tt kd dp w h s)))) M) : pm_PC S (d + 4) 149 [.inr (.inr 19)] M Q := by
  have ht := en_tl_ok hok
  unfold en_tt at hq
  refine e_Mod_rowsBytes (k_Mod_rowsBytes_0 (fun e => k_Mod_rowsBytes_13 (k_Mod_rowsBytes_15 ?_)) (fun e => k_Mod_rowsBytes_9 (k_Mod_rowsBytes_15 ?_)))
  · rw [hh.2.2.2.2] at e
    rw [if_pos e] at hq
    exact w_mrb_loop (z := 7) hok hh (Or.inl ⟨e, rfl⟩) 1 7 0 (by decide) (by omega) (by rw [Nat.zero_add]; exact hq)
  · rw [hh.2.2.2.2] at e
    rw [if_neg e] at hq
    exact w_mrb_loop (z := 6) hok hh (Or.inr ⟨e, rfl⟩) 7 0 0 (by decide) (by omega) (by rw [Nat.zero_add]; exact hq)
theorem w_msa_loop {p r fr : Nat} {g : Nat → Int32} {R : Nat → Nat → Nat → Int32} (hok : pc_ok kd dp w h) (hp : p < 8) (hr : r < ps_rw p w h) (hfr : fr + ps_sz p w (pc_pp kd) dp ≤ 300) : ∀ (k m : Nat) (M : pm_M) (f : Nat → Nat → Nat → Int32) (l6 l7 : Option pm_V), m + k = ps_pt p w * pc_pp kd → mo_h M kd dp w h s → mo_s M 21 kd w h f → (∀ j, j < ps_sz p w (pc_pp kd) dp → M 25 (fr + j) = g j) → de_ss kd dp g p r k m f = R → (∀ M', mo_s M' 21 kd w h R → mo_ag [] [21] M M' → Q none M') → pm_R S (pm_PC S (d + 2)) Q 150 12 [some (.inr (.inr 19)), some (.inl (nI p)), some (.inl (nI r)), some (.inl (nI fr)), some (.inl (nI (pc_pp kd))), some (.inl (nI m)), l6, l7] [] M := by
  have hw := hok.2.1
  have hh2 := hok.2.2
  have hpp := pc_pp_le kd
  have hdp := pc_dp hok
  have h32 := mo_pt32 hok hp
  have nz2 : ¬ nI (pc_pp kd) = 0 := fun z => absurd ((nI_eq (a := pc_pp kd) (b := 0) (by omega) (by decide)).mp z) (by omega)
  intro k
  induction k with
  | zero =>
    intro m M f l6 l7 hm hh hs hM hR hq
    refine k_Mod_samples_12 ?_
    rw [hh.2.2.1]
    refine w_Mod_columns hp (by omega) (k_Mod_samples_22 (fun _ => k_Mod_samples_125 (hq M ?_ mo_ag.rf)) (fun t => absurd ?_ t))
    · rw [← hR]
      exact hs
    · rw [pk_mul]
      exact nI_le (by omega) (by omega)
  | succ k ih =>
    intro m M f l6 l7 hm hh hs hM hR hq
    have hmN : m < ps_pt p w * pc_pp kd := by omega
    obtain ⟨x1, x2⟩ := mo_x_in hok hp hmN
    have hy := (ps_y_in hp (show h < 9 by omega) hr).1
    have hmd : m * dp < 256 := by rcases hdp with rfl | rfl | rfl | rfl <;> omega
    have hj : m * dp / 8 < ps_sz p w (pc_pp kd) dp := by
      have h3 : (m + 1) * dp ≤ ps_pt p w * pc_pp kd * dp := Nat.mul_le_mul_right _ hmN
      rw [Nat.add_mul] at h3
      unfold ps_sz
      rcases hdp with rfl | rfl | rfl | rfl <;> omega
    have eb : nI m * M 19 20 = nI (m * dp) := by rw [hh.2.1, pk_mul]
    have e8 : nI fr + nI (m * dp) / 8 = nI (fr + m * dp / 8) := by rw [nm_div8 (by omega), nI_add]
    have esh : 8 - M 19 20 - pm_irem (nI (m * dp)) 8 = nI (8 - dp - m * dp % 8) := by
      rw [hh.2.1, nm_rem8 (by omega), show (8 : Int32) = nI 8 from rfl, pk_sub (by rcases hdp with rfl | rfl | rfl | rfl <;> omega), pk_sub (by rcases hdp with rfl | rfl | rfl | rfl <;> omega)]
    have emask : pm_ishl 1 (M 19 20) - 1 = nI (2 ^ dp - 1) := by
      rw [hh.2.1]
      rcases hdp with rfl | rfl | rfl | rfl <;> decide
    refine k_Mod_samples_12 ?_
    rw [hh.2.2.1]
    refine w_Mod_columns hp (by omega) (k_Mod_samples_22 (fun t => absurd t ?_) (fun _ => k_Mod_samples_28 ?_ ?_))
    · rw [pk_mul]
      exact nI_ge hmN (by omega)
    · rw [eb, e8]
      exact vp_in_nI (by omega) (by decide)
    · rw [eb, e8, nI_clamp (by omega), hM _ hj, esh, emask]
      refine w_Mod_firstY hp (k_Mod_samples_84 (w_Mod_stepY hp (k_Mod_samples_89 (w_Mod_firstX hp (k_Mod_samples_97 nz2 (w_Mod_stepX hp ?_))))))
      have ed : nI m / nI (pc_pp kd) = nI (m / pc_pp kd) := pk_div (by omega) (by omega) (by omega)
      have er : pm_irem (nI m) (nI (pc_pp kd)) = nI (m % pc_pp kd) := pk_rem (by omega) (by omega) (by omega)
      have hlt : 32 * (ps_y0 p + r * ps_dy p) + 4 * (ps_x0 p + m / pc_pp kd * ps_dx p) + m % pc_pp kd < 256 := by omega
      have eix : 32 * (nI (ps_y0 p) + nI r * nI (ps_dy p)) + 4 * (nI (ps_x0 p) + nI m / nI (pc_pp kd) * nI (ps_dx p)) + pm_irem (nI m) (nI (pc_pp kd)) = nI (32 * (ps_y0 p + r * ps_dy p) + 4 * (ps_x0 p + m / pc_pp kd * ps_dx p) + m % pc_pp kd) := by
        rw [ed, er, pk_mul, nI_add, pk_mul, nI_add]
        exact mo_ix
      refine k_Mod_samples_106 nz2 (by rw [eix]; exact vp_in_nI hlt (by decide)) ?_
      rw [eix, nI_clamp (by omega), nI_1]
      have a : mo_ag [] [21] M (pm_up M 21 (32 * (ps_y0 p + r * ps_dy p) + 4 * (ps_x0 p + m / pc_pp kd * ps_dx p) + m % pc_pp kd) (pm_ishr (g (m * dp / 8)) (nI (8 - dp - m * dp % 8)) &&& nI (2 ^ dp - 1))) := mo_ag.p (by decide) (by decide)
      refine ih (m + 1) _ (im_up f (ps_x0 p + m / pc_pp kd * ps_dx p) (ps_y0 p + r * ps_dy p) (m % pc_pp kd) (de_sv dp g m)) _ _ (by omega) (hh.keep a) (fun x' y' c' hx' hy' hc' => ?_) (fun j hj => by rw [a.pl (show (25 : Nat) ∉ _ by decide)]; exact hM j hj) hR (fun M' q1 q2 => hq M' q1 (a.tr q2))
      unfold im_up
      by_cases e : x' = ps_x0 p + m / pc_pp kd * ps_dx p ∧ y' = ps_y0 p + r * ps_dy p ∧ c' = m % pc_pp kd
      · rw [if_pos e, e.1, e.2.1, e.2.2, pm_up_hit]
        rfl
      · rw [if_neg e, pm_up_off (Or.inr (fun q => e (by omega)))]
        exact hs x' y' c' hx' hy' hc'
theorem w_Mod_samples {p r fr : Nat} {g : Nat → Int32} {f : Nat → Nat → Nat → Int32} {M : pm_M} (hok : pc_ok kd dp w h) (hp : p < 8) (hr : r < ps_rw p w h) (hfr : fr + ps_sz p w (pc_pp kd) dp ≤ 300) (hh : mo_h M kd dp w h s) (hs : mo_s M 21 kd w h f) (hM : ∀ j, j < ps_sz p w (pc_pp kd) dp → M 25 (fr + j) = g j) (hq : ∀ M', mo_s M' 21 kd w h (de_ss kd dp g p r (ps_pt p w * pc_pp kd) 0 f) → mo_ag [] [21] M M' → Q none M') : pm_PC S (d + 3) 150 [.inr (.inr 19), .inl (nI p), .inl (nI r), .inl (nI fr)] M Q := by
  refine e_Mod_samples (k_Mod_samples_0 ?_)
  rw [hh.1]
  refine w_parts_nI (d := d + 1) (pc_kd hok) (k_Mod_samples_7 ?_)
  exact w_msa_loop hok hp hr hfr (ps_pt p w * pc_pp kd) 0 M f _ _ (by omega) hh hs hM rfl hq
/-- a row's bytes, in their place -/
theorem w_mrr_loop {p r q fl : Nat} {u : Nat → Int32} {D : List Int32} {x1 : Option pm_V} (hok : pc_ok kd dp w h) (hp : p < 8) (hr : r < 9) (hf : fl < 5) (hq0 : r = 0 ∨ ps_sz p w (pc_pp kd) dp ≤ q) (hqD : q + (1 + ps_sz p w (pc_pp kd) dp) ≤ D.length) (hD : D.length ≤ 300) (hu0 : r = 0 → u = fun _ => 0) : ∀ (k j : Nat) (M : pm_M) (l9 l10 l11 l12 : Option pm_V), j + k = ps_sz p w (pc_pp kd) dp → (∀ i, q + 1 + j ≤ i → i < D.length → M 25 i = un_p D i) → (∀ i, i < j → M 25 (q + 1 + i) = de_r fl (ps_un (pc_pp kd) dp) (fun k => un_p D (q + 1 + k)) u j i) → (r ≠ 0 → ∀ i, i < ps_sz p w (pc_pp kd) dp → M 25 (q - ps_sz p w (pc_pp kd) dp + i) = u i) → (∀ M' l8 l9 l10 l11 l12, (∀ i, q + 1 + ps_sz p w (pc_pp kd) dp ≤ i → i < D.length → M' 25 i = un_p D i) → (∀ i, i < ps_sz p w (pc_pp kd) dp → M' 25 (q + 1 + i) = de_r fl (ps_un (pc_pp kd) dp) (fun k => un_p D (q + 1 + k)) u (ps_sz p w (pc_pp kd) dp) i) → mo_ag [] [25] M M' → pm_R S (pm_PC S (d + 2)) Q 151 251 [some (.inr (.inr 19)), x1, some (.inl (nI (ps_un (pc_pp kd) dp))), some (.inl (nI q)), some (.inl (nI p)), some (.inl (nI (ps_sz p w (pc_pp kd) dp))), some (.inl (nI r)), some (.inl (nI fl)), l8, l9, l10, l11, l12] [] M') → pm_R S (pm_PC S (d + 2)) Q 151 125 [some (.inr (.inr 19)), x1, some (.inl (nI (ps_un (pc_pp kd) dp))), some (.inl (nI q)), some (.inl (nI p)), some (.inl (nI (ps_sz p w (pc_pp kd) dp))), some (.inl (nI r)), some (.inl (nI fl)), some (.inl (nI j)), l9, l10, l11, l12] [] M := by
  have hsz := ps_sz_le hok hp
  have hun := ps_un_le hok
  generalize hn : ps_sz p w (pc_pp kd) dp = n at *
  generalize hb : ps_un (pc_pp kd) dp = un at *
  intro k
  induction k with
  | zero =>
    intro j M l9 l10 l11 l12 hj h1 h2 h3 hq
    have e : j = n := by omega
    subst e
    exact k_Mod_rebuilt_125 (fun _ => hq M _ _ _ _ _ h1 h2 mo_ag.rf) (fun z => absurd (nI_le (Nat.le_refl _) (by omega)) z)
  | succ k ih =>
    intro j M l9 l10 l11 l12 hj h1 h2 h3 hq
    have ei : nI q + 1 + nI j = nI (q + 1 + j) := by rw [nI_1, nI_add]
    have r0 : nI r = 0 ↔ r = 0 := ⟨fun e => (nI_eq (b := 0) (by omega) (by decide)).mp e, fun e => by rw [e]; rfl⟩
    -- the last step
    have fin : ∀ (c : Int32) (l12 : Option pm_V), c = (if j < un then 0 else u (j - un)) → pm_R S (pm_PC S (d + 2)) Q 151 213 [some (.inr (.inr 19)), x1, some (.inl (nI un)), some (.inl (nI q)), some (.inl (nI p)), some (.inl (nI n)), some (.inl (nI r)), some (.inl (nI fl)), some (.inl (nI j)), some (.inl (nI (q + 1 + j))), some (.inl (if j < un then 0 else de_r fl un (fun k => un_p D (q + 1 + k)) u j (j - un))), some (.inl (u j)), l12] [.inl c] M := by
      rintro c l12 rfl
      refine k_Mod_rebuilt_213 (vp_in_nI (by omega) (by decide)) (w_Mod_foretold hf (k_Mod_rebuilt_239 (vp_in_nI (by omega) (by decide)) ?_))
      rw [nI_clamp (by omega), nI_1, h1 (q + 1 + j) (Nat.le_refl _) (by omega)]
      have a : mo_ag [] [25] M (pm_up M 25 (q + 1 + j) ((un_p D (q + 1 + j) + ro_p fl (if j < un then 0 else de_r fl un (fun k => un_p D (q + 1 + k)) u j (j - un)) (u j) (if j < un then 0 else u (j - un))) &&& 255)) := mo_ag.p (by decide) (by decide)
      refine ih (j + 1) _ _ _ _ _ (by omega) (fun i hi1 hi2 => ?_) (fun i hi => ?_) (fun hr0 i hi => ?_) (fun M' l8 l9 l10 l11 l12 q1 q2 q3 => hq M' l8 l9 l10 l11 l12 q1 q2 (a.tr q3))
      · rw [pm_up_off (Or.inr (by omega))]
        exact h1 i (by omega) hi2
      · show _ = upd (de_r fl un (fun k => un_p D (q + 1 + k)) u j) j _ i
        by_cases e : i = j
        · subst e
          rw [pm_up_hit, pk_us]
          rfl
        · rw [pm_up_off (Or.inr (by omega)), pk_un e]
          exact h2 i (by omega)
      · rw [pm_up_off (Or.inr (by omega))]
        exact h3 hr0 i hi
    -- the byte above and to the left
    have c3 : ∀ (l11 l12 : Option pm_V) (b : Int32), b = u j → pm_R S (pm_PC S (d + 2)) Q 151 182 [some (.inr (.inr 19)), x1, some (.inl (nI un)), some (.inl (nI q)), some (.inl (nI p)), some (.inl (nI n)), some (.inl (nI r)), some (.inl (nI fl)), some (.inl (nI j)), some (.inl (nI (q + 1 + j))), some (.inl (if j < un then 0 else de_r fl un (fun k => un_p D (q + 1 + k)) u j (j - un))), l11, l12] [.inl b] M := by
      rintro l11 l12 b rfl
      refine k_Mod_rebuilt_182 (fun z => k_Mod_rebuilt_195 (fin 0 _ ?_)) (fun z => k_Mod_rebuilt_189 (fun z2 => ?_) (fun z2 => k_Mod_rebuilt_195 (fin 0 _ ?_)))
      · rw [hu0 (r0.mp z)]
        split <;> rfl
      · rw [nI_leI (by omega) (by omega)] at z2
        have hr0 : r ≠ 0 := fun e => z (r0.mpr e)
        have hqn : n ≤ q := by omega
        have e1 : nI (q + 1 + j) - nI n - 1 - nI un = nI (q - n + (j - un)) := by
          rw [show (1 : Int32) = nI 1 from rfl, pk_sub (by omega), pk_sub (by omega), pk_sub (by omega)]
          congr 1
          omega
        refine k_Mod_rebuilt_199 (by rw [e1]; exact vp_in_nI (by omega) (by decide)) ?_
        rw [e1, nI_clamp (by omega), h3 hr0 _ (by omega)]
        exact fin _ _ (by rw [if_neg (by omega)])
      · rw [nI_leI (by omega) (by omega)] at z2
        rw [if_pos (by omega)]
    have c2 : ∀ (l10 l11 l12 : Option pm_V) (a : Int32), a = (if j < un then 0 else de_r fl un (fun k => un_p D (q + 1 + k)) u j (j - un)) → pm_R S (pm_PC S (d + 2)) Q 151 159 [some (.inr (.inr 19)), x1, some (.inl (nI un)), some (.inl (nI q)), some (.inl (nI p)), some (.inl (nI n)), some (.inl (nI r)), some (.inl (nI fl)), some (.inl (nI j)), some (.inl (nI (q + 1 + j))), l10, l11, l12] [.inl a] M := by
      rintro l10 l11 l12 a rfl
      refine k_Mod_rebuilt_159 (fun z => ?_) (fun z => k_Mod_rebuilt_166 (c3 _ _ 0 ?_))
      · have hr0 : r ≠ 0 := fun e => z (r0.mpr e)
        have hqn : n ≤ q := by omega
        have e1 : nI (q + 1 + j) - nI n - 1 = nI (q - n + j) := by
          rw [show (1 : Int32) = nI 1 from rfl, pk_sub (by omega), pk_sub (by omega)]
          congr 1
          omega
        refine k_Mod_rebuilt_170 (by rw [e1]; exact vp_in_nI (by omega) (by decide)) ?_
        rw [e1, nI_clamp (by omega), h3 hr0 _ (by omega)]
        exact c3 _ _ _ rfl
      · rw [hu0 (r0.mp (Classical.not_not.mp z))]
    refine k_Mod_rebuilt_125 (fun z => absurd z (nI_ge (by omega) (by omega))) (fun _ => k_Mod_rebuilt_132 (fun z => ?_) (fun z => k_Mod_rebuilt_146 ?_))
    · rw [nI_leI (by omega) (by omega)] at z
      rw [ei]
      have e1 : nI (q + 1 + j) - nI un = nI (q + 1 + (j - un)) := by
        rw [pk_sub (by omega)]
        congr 1
        omega
      refine k_Mod_rebuilt_150 (by rw [e1]; exact vp_in_nI (by omega) (by decide)) ?_
      rw [e1, nI_clamp (by omega), h2 _ (by omega)]
      exact c2 _ _ _ _ (by rw [if_neg (by omega)])
    · rw [nI_leI (by omega) (by omega)] at z
      rw [ei]
      exact c2 _ _ _ _ (by rw [if_pos (by omega)])
end MOD
