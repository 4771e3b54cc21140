/-! SevenPassImageModel.gather: the data out of the picture. -/
/-- only these fields of the model and these places changed -/
def mo_ag (js ks : List Nat) (M M' : pm_M) : Prop := pm_ag (19 :: ks) M M' ∧ ∀ j, j ∉ js → M' 19 j = M 19 j
theorem mo_ag.rf {js ks : List Nat} {M : pm_M} : mo_ag js ks M M := ⟨pm_ag.rf, fun _ _ => rfl⟩
theorem mo_ag.tr {js ks : List Nat} {M M1 M2 : pm_M} (h1 : mo_ag js ks M M1) (h2 : mo_ag js ks M1 M2) : mo_ag js ks M M2 := ⟨h1.1.tr h2.1, fun j hj => (h2.2 j hj).trans (h1.2 j hj)⟩
theorem mo_ag.wd {js ks js' ks' : List Nat} {M M1 : pm_M} (h : mo_ag js ks M M1) (hj : ∀ k ∈ js, k ∈ js') (hk : ∀ k ∈ ks, k ∈ ks') : mo_ag js' ks' M M1 :=
  ⟨h.1.wd (fun k hk2 => by
    rcases List.mem_cons.mp hk2 with e | e
    · rw [e]; exact List.mem_cons_self
    · exact List.mem_cons_of_mem _ (hk k e)), fun j hj2 => h.2 j (fun z => hj2 (hj j z))⟩
theorem mo_ag.f {js ks : List Nat} {M : pm_M} {j : Nat} {x : Int32} (h : j ∈ js) : mo_ag js ks M (pm_up M 19 j x) :=
  ⟨pm_ag.up List.mem_cons_self, fun i hi => pm_up_off (Or.inr (fun e => hi (e ▸ h)))⟩
theorem mo_ag.p {js ks : List Nat} {M : pm_M} {k j : Nat} {x : Int32} (h : k ∈ ks) (h2 : k ≠ 19) : mo_ag js ks M (pm_up M k j x) :=
  ⟨pm_ag.up (List.mem_cons_of_mem _ h), fun i hi => by rw [pm_up_ne (fun e => h2 e.symm)]⟩
theorem mo_ag.pl {js ks : List Nat} {M M1 : pm_M} (h : mo_ag js ks M M1) {k : Nat} (hk : k ∉ 19 :: ks) : M1 k = M k := h.1 k hk
theorem mo_sh.keep {M M' : pm_M} {kd dp w h : Nat} {js ks : List Nat} (hs : mo_sh M kd dp w h) (ha : mo_ag js ks M M') (h0 : 0 ∉ js) (h1 : 1 ∉ js) (h2 : 2 ∉ js) (h3 : 3 ∉ js) : mo_sh M' kd dp w h := by
  unfold mo_sh
  rw [ha.2 0 h0, ha.2 1 h1, ha.2 2 h2, ha.2 3 h3]
  exact hs
theorem mo_s.keep {M M' : pm_M} {b kd w h : Nat} {f : Nat → Nat → Nat → Int32} {js ks : List Nat} (hs : mo_s M b kd w h f) (ha : mo_ag js ks M M') (hb : b ∉ 19 :: ks) : mo_s M' b kd w h f := by
  unfold mo_s
  rw [ha.pl hb]
  exact hs
theorem mo_f.keep {M M' : pm_M} {F : List Int32} {js ks : List Nat} (hs : mo_f M F) (ha : mo_ag js ks M M') (h6 : 6 ∉ js) (hb : 22 ∉ 19 :: ks) : mo_f M' F := by
  unfold mo_f
  rw [ha.pl hb, ha.2 6 h6]
  exact hs
/-- the data -/
def mo_d (M : pm_M) (D : List Int32) : Prop := M 19 12 = nI D.length ∧ D.length ≤ 300 ∧ ∀ i x, D[i]? = some x → M 25 i = x
theorem mo_d.keep {M M' : pm_M} {D : List Int32} {js ks : List Nat} (hs : mo_d M D) (ha : mo_ag js ks M M') (h6 : 12 ∉ js) (hb : 25 ∉ 19 :: ks) : mo_d M' D := by
  unfold mo_d
  rw [ha.pl hb, ha.2 12 h6]
  exact hs
theorem mo_d.at {M : pm_M} {F : List Int32} (h : mo_d M F) {i : Nat} (hi : i < F.length) : M 25 i = (F[i]?).getD (-1) := by
  rw [List.getElem?_eq_getElem hi]
  exact h.2.2 i _ (List.getElem?_eq_getElem hi)
theorem mo_d.push {M : pm_M} {F : List Int32} {v : Int32} (h : mo_d M F) (hc : F.length < 300) : mo_d (pm_up (pm_up M 25 F.length v) 19 12 (nI (F.length + 1))) (F ++ [v]) := by
  refine ⟨?_, ?_, fun j x hx => ?_⟩
  · rw [pm_up_hit, List.length_append]
    rfl
  · rw [List.length_append, List.length_singleton]
    omega
  · rw [pm_up_off (Or.inl (by decide))]
    by_cases e : j = F.length
    · subst e
      rw [List.getElem?_append_right (Nat.le_refl _), Nat.sub_self] at hx
      cases hx
      exact pm_up_hit
    · have hj : j < F.length := by
        by_cases hj : j < F.length
        · exact hj
        · rw [List.getElem?_eq_none (by rw [List.length_append, List.length_singleton]; omega)] at hx
          cases hx
      rw [List.getElem?_append_left hj] at hx
      rw [pm_up_off (Or.inr e)]
      exact h.2.2 j x hx
section MOD
variable {S d : Nat} {Q : pm_Q} {kd dp w h : Nat} {f : Nat → Nat → Nat → Int32}
theorem w_ga_in {p r q : Nat} {x1 x2 : Option pm_V} (hok : pc_ok kd dp w h) (hs : sm_ok kd dp w h f) (hp : p < 8) (hr : r < ps_rw p w h) (hf : q < 5) : ∀ (k n : Nat) (M : pm_M) (D : List Int32), n + k = ps_sz p w (pc_pp kd) dp → mo_sh M kd dp w h → mo_s M 20 kd w h f → mo_d M D → D.length + k ≤ 300 → (∀ M' l6, mo_d M' (D ++ ro_fs q (ps_un (pc_pp kd) dp) (rw_b kd dp w f p r) (mo_u kd dp w f p r) n k) → mo_ag [12] [25] M M' → pm_R S (pm_PC S (d + 5)) Q 114 189 [some (.inr (.inr 19)), x1, x2, some (.inl (nI p)), some (.inl (nI r)), some (.inl (nI q)), l6] [] M') → pm_R S (pm_PC S (d + 5)) Q 114 129 [some (.inr (.inr 19)), x1, x2, some (.inl (nI p)), some (.inl (nI r)), some (.inl (nI q)), some (.inl (nI n))] [] M := by
  have hsz := ps_sz_le hok hp
  have hpp := pc_pp_le kd
  have hw := hok.2.1
  have hdp : dp ≤ 8 := by rcases pc_dp hok with rfl | rfl | rfl | rfl <;> decide
  intro k
  induction k with
  | zero =>
    intro n M D hn h19 h20 hD hc hq
    have e : n = ps_sz p w (pc_pp kd) dp := by omega
    subst e
    refine k_Mod_gather_129 ?_
    rw [h19.1, h19.2.2.1]
    refine w_parts_nI (pc_kd hok) (k_Mod_gather_143 ?_)
    rw [h19.2.1]
    refine w_Mod_lineBytes hp (by omega) hpp.2 hdp (k_Mod_gather_150 (fun _ => hq M _ ?_ mo_ag.rf) (fun z => absurd (nI_le (Nat.le_refl _) (by omega)) z))
    simpa [ro_fs] using hD
  | succ k ih =>
    intro n M D hn h19 h20 hD hc hq
    refine k_Mod_gather_129 ?_
    rw [h19.1, h19.2.2.1]
    refine w_parts_nI (pc_kd hok) (k_Mod_gather_143 ?_)
    rw [h19.2.1]
    refine w_Mod_lineBytes hp (by omega) hpp.2 hdp (k_Mod_gather_150 (fun z => absurd z (nI_ge (by omega) (by omega))) (fun _ => k_Mod_gather_153 (w_Mod_filtered hok hs hp hr (by omega) hf h19 h20 (k_Mod_gather_172 ?_ ?_))))
    · rw [hD.1]
      exact vp_in_nI (by omega) (by decide)
    · rw [hD.1, nI_clamp (by omega), nI_1, nI_1]
      have a : mo_ag [12] [25] M (pm_up (pm_up M 25 D.length (ro_fl q (ps_un (pc_pp kd) dp) (rw_b kd dp w f p r) (mo_u kd dp w f p r) n)) 19 12 (nI (D.length + 1))) := (mo_ag.p (by decide) (by decide)).tr (mo_ag.f (by decide))
      refine ih (n + 1) _ _ (by omega) (h19.keep a (by decide) (by decide) (by decide) (by decide)) (h20.keep a (by decide)) (hD.push (by omega)) (by simp; omega) (fun M' l6 g1 g2 => hq M' l6 ?_ (a.tr g2))
      simpa [ro_fs] using g1
theorem w_ga_rows {p flt : Nat} {x1 : Option pm_V} (hok : pc_ok kd dp w h) (hs : sm_ok kd dp w h f) (hp : p < 8) (hflt : flt ≤ 5) : ∀ (k r : Nat) (M : pm_M) (s : List Int32 × (Nat → Int32)) (l5 l6 : Option pm_V), r + k = ps_rw p w h → mo_sh M kd dp w h → mo_s M 20 kd w h f → mo_d M s.1 → (∀ i, i < 5 → M 23 i = s.2 i) → s.1.length + k * (1 + ps_sz p w (pc_pp kd) dp) ≤ 300 → (∀ M' l4 l5 l6, mo_d M' (en_rows kd dp w f flt p k r (mo_u kd dp w f p r) s).1 → (∀ i, i < 5 → M' 23 i = (en_rows kd dp w f flt p k r (mo_u kd dp w f p r) s).2 i) → mo_ag [12] [23, 25] M M' → pm_R S (pm_PC S (d + 5)) Q 114 195 [some (.inr (.inr 19)), x1, some (.inl (nI flt)), some (.inl (nI p)), l4, l5, l6] [] M') → pm_R S (pm_PC S (d + 5)) Q 114 54 [some (.inr (.inr 19)), x1, some (.inl (nI flt)), some (.inl (nI p)), some (.inl (nI r)), l5, l6] [] M := by
  have hw := hok.2.1
  have hh := hok.2.2
  have hrw := ps_rw_lt (w := w) hp (show h < 9 by omega)
  intro k
  induction k with
  | zero =>
    intro r M s l5 l6 hr h19 h20 hD h23 hc hq
    refine k_Mod_gather_54 ?_
    rw [h19.2.2.1, h19.2.2.2]
    exact w_Mod_lines hp (by omega) (by omega) (k_Mod_gather_68 (fun _ => hq M _ _ _ hD h23 mo_ag.rf) (fun z => absurd (nI_le (by omega) (by omega)) z))
  | succ k ih =>
    intro r M s l5 l6 hr h19 h20 hD h23 hc hq
    have hr2 : r < ps_rw p w h := by omega
    rw [Nat.add_mul, Nat.one_mul] at hc
    unfold en_rows at hq
    have hql := en_q_lt kd dp w f hflt p r (mo_u kd dp w f p r)
    generalize hqe : en_q kd dp w f flt p r (mo_u kd dp w f p r) = qq at hq hql
    have key : ∀ l5, pm_R S (pm_PC S (d + 5)) Q 114 87 [some (.inr (.inr 19)), x1, some (.inl (nI flt)), some (.inl (nI p)), some (.inl (nI r)), l5, l6] [.inl (nI qq)] M := by
      intro l5
      refine k_Mod_gather_87 (vp_in_nI hql (by decide)) (vp_in_nI hql (by decide)) (by rw [hD.1]; exact vp_in_nI (by omega) (by decide)) ?_
      rw [nI_clamp (by omega), h23 qq hql, hD.1, nI_clamp (by omega), nI_1]
      have a0 : mo_ag [12] [23, 25] M (pm_up M 23 qq (s.2 qq + 1)) := mo_ag.p (by decide) (by decide)
      have a1 : mo_ag [12] [23, 25] (pm_up M 23 qq (s.2 qq + 1)) (pm_up (pm_up (pm_up M 23 qq (s.2 qq + 1)) 25 s.1.length (nI qq)) 19 12 (nI (s.1.length + 1))) := (mo_ag.p (by decide) (by decide)).tr (mo_ag.f (by decide))
      have A := a0.tr a1
      have hD0 : mo_d (pm_up M 23 qq (s.2 qq + 1)) s.1 := hD.keep (js := []) (ks := [23]) (mo_ag.p (by decide) (by decide)) (by decide) (by decide)
      refine w_ga_in hok hs hp hr2 hql _ 0 _ _ (Nat.zero_add _) (h19.keep A (by decide) (by decide) (by decide) (by decide)) (h20.keep A (by decide)) (hD0.push (by omega)) (by simp; omega) (fun M2 l6 g1 g2 => k_Mod_gather_189 ?_)
      rw [nI_1]
      have A2 : mo_ag [12] [23, 25] M M2 := A.tr (g2.wd (by decide) (by decide))
      have eD : s.1 ++ [nI qq] ++ ro_fs qq (ps_un (pc_pp kd) dp) (rw_b kd dp w f p r) (mo_u kd dp w f p r) 0 (ps_sz p w (pc_pp kd) dp) = s.1 ++ ro_ou qq (ps_sz p w (pc_pp kd) dp) (ps_un (pc_pp kd) dp) (rw_b kd dp w f p r) (mo_u kd dp w f p r) := by
        rw [List.append_assoc]
        rfl
      rw [eD] at g1
      refine ih (r + 1) M2 (s.1 ++ ro_ou qq (ps_sz p w (pc_pp kd) dp) (ps_un (pc_pp kd) dp) (rw_b kd dp w f p r) (mo_u kd dp w f p r), upd s.2 qq (s.2 qq + 1)) _ _ (by omega) (h19.keep A2 (by decide) (by decide) (by decide) (by decide)) (h20.keep A2 (by decide)) g1 (fun i hi => ?_) (by simp [ro_ou_len]; omega) (fun M' l4 l5 l6 t1 t2 t3 => hq M' l4 l5 l6 t1 t2 (A2.tr t3))
      rw [g2.pl (show (23 : Nat) ∉ _ by decide)]
      rw [pm_up_off (Or.inl (by decide)), pm_up_off (Or.inl (by decide))]
      show _ = upd s.2 qq (s.2 qq + 1) i
      by_cases e : i = qq
      · subst e
        rw [pm_up_hit, pk_us]
      · rw [pm_up_off (Or.inr e), pk_un e]
        exact h23 i hi
    refine k_Mod_gather_54 ?_
    rw [h19.2.2.1, h19.2.2.2]
    refine w_Mod_lines hp (by omega) (by omega) (k_Mod_gather_68 (fun z => absurd z (nI_ge hr2 (by omega))) (fun _ => k_Mod_gather_71 (fun z => k_Mod_gather_86 ?_) (fun z => k_Mod_gather_76 ?_)))
    · have e5 : ¬ flt = 5 := fun e => z (by rw [e]; rfl)
      have eq : qq = flt := by rw [← hqe, en_q, if_neg e5]
      rw [← eq] at key ⊢
      exact key _
    · have e5 : flt = 5 := (nI_eq (a := flt) (b := 5) (by omega) (by decide)).mp (Classical.not_not.mp z)
      have eq : qq = ro_bf (ps_sz p w (pc_pp kd) dp) (ps_un (pc_pp kd) dp) (rw_b kd dp w f p r) (mo_u kd dp w f p r) := by rw [← hqe, en_q, if_pos e5]
      refine w_Mod_bestFilter hok hs hp hr2 h19 h20 (k_Mod_gather_83 ?_)
      rw [← eq]
      exact key _
theorem w_ga_all {flt z : Nat} {x1 : Int32} (hok : pc_ok kd dp w h) (hs : sm_ok kd dp w h f) (hflt : flt ≤ 5) (hz : (x1 = 0 ∧ z = 7) ∨ (¬ x1 = 0 ∧ z = 6)) : ∀ (k p : Nat) (M : pm_M) (s : List Int32 × (Nat → Int32)) (l4 l5 l6 : Option pm_V), p + k = z + 1 → mo_sh M kd dp w h → mo_s M 20 kd w h f → mo_d M s.1 → (∀ i, i < 5 → M 23 i = s.2 i) → s.1.length + en_tl kd dp w h k p ≤ 300 → (∀ M', mo_d M' (en_all kd dp w h f flt k p s).1 → (∀ i, i < 5 → M' 23 i = (en_all kd dp w h f flt k p s).2 i) → mo_ag [12] [23, 25] M M' → Q none M') → pm_R S (pm_PC S (d + 5)) Q 114 36 [some (.inr (.inr 19)), some (.inl x1), some (.inl (nI flt)), some (.inl (nI p)), l4, l5, l6] [] M := by
  have hz8 : z < 8 := by omega
  have lim : ∀ {M : pm_M} {p : Nat} {l4 l5 l6 : Option pm_V}, (∀ v, v = nI (z + 1) → pm_R S (pm_PC S (d + 5)) Q 114 48 [some (.inr (.inr 19)), some (.inl x1), some (.inl (nI flt)), some (.inl (nI p)), l4, l5, l6] [.inl v, .inl (nI p)] M) → pm_R S (pm_PC S (d + 5)) Q 114 36 [some (.inr (.inr 19)), some (.inl x1), some (.inl (nI flt)), some (.inl (nI p)), l4, l5, l6] [] M := by
    intro M p l4 l5 l6 hv
    rcases hz with ⟨h1, rfl⟩ | ⟨h1, rfl⟩
    · exact k_Mod_gather_36 (fun _ => k_Mod_gather_46 (hv _ rfl)) (fun t => absurd h1 t)
    · exact k_Mod_gather_36 (fun t => absurd t h1) (fun _ => k_Mod_gather_41 (hv _ rfl))
  intro k
  induction k with
  | zero =>
    intro p M s l4 l5 l6 hp h19 h20 hD h23 hc hq
    refine lim (fun v ev => ?_)
    subst ev
    exact k_Mod_gather_48 (fun _ => k_Mod_gather_201 (hq M hD h23 mo_ag.rf)) (fun q => absurd (nI_le (by omega) (by omega)) q)
  | succ k ih =>
    intro p M s l4 l5 l6 hp h19 h20 hD h23 hc hq
    unfold en_tl at hc
    unfold en_all at hq
    refine lim (fun v ev => ?_)
    subst ev
    refine k_Mod_gather_48 (fun q => absurd q (nI_ge (by omega) (by omega))) (fun _ => k_Mod_gather_51 ?_)
    refine w_ga_rows hok hs (by omega) hflt (ps_rw p w h) 0 M s _ _ (by omega) h19 h20 hD h23 (by omega) (fun M2 l4 l5 l6 q1 q2 q3 => k_Mod_gather_195 ?_)
    rw [nI_1]
    have hl := en_rows_len kd dp w f flt p (ps_rw p w h) 0 (fun _ => 0) s
    exact ih (p + 1) M2 _ _ _ _ (by omega) (h19.keep q3 (by decide) (by decide) (by decide) (by decide)) (h20.keep q3 (by decide)) q1 q2 (by show (en_rows kd dp w f flt p (ps_rw p w h) 0 (fun _ => 0) s).1.length + _ ≤ 300; rw [hl]; omega) (fun M' t1 t2 t3 => hq M' t1 t2 (q3.tr t3))
theorem w_ga_clr {x1 : Option pm_V} {x2 : Int32} {l4 l5 l6 : Option pm_V} : ∀ (k i : Nat) (M : pm_M), i + k = 5 → (∀ j, j < i → M 23 j = 0) → (∀ M' l3, (∀ j, j < 5 → M' 23 j = 0) → mo_ag [] [23] M M' → pm_R S (pm_PC S (d + 5)) Q 114 25 [some (.inr (.inr 19)), x1, some (.inl x2), l3, l4, l5, l6] [] M') → pm_R S (pm_PC S (d + 5)) Q 114 7 [some (.inr (.inr 19)), x1, some (.inl x2), some (.inl (nI i)), l4, l5, l6] [] M := by
  intro k
  induction k with
  | zero =>
    intro i M hi hd hq
    have e : i = 5 := by omega
    subst e
    exact k_Mod_gather_7 (fun _ => hq M _ hd mo_ag.rf) (fun z => absurd (by decide) z)
  | succ k ih =>
    intro i M hi hd hq
    refine k_Mod_gather_7 (fun z => absurd z (nI_ge (b := 5) (by omega) (by decide))) (fun _ => k_Mod_gather_12 (vp_in_nI (by omega) (by decide)) ?_)
    rw [nI_clamp (by omega), nI_1]
    refine ih (i + 1) _ (by omega) (fun j hj => ?_) (fun M' l3 h1 h2 => hq M' l3 h1 ((mo_ag.p (by decide) (by decide)).tr h2))
    by_cases e : j = i
    · subst e; exact pm_up_hit
    · rw [pm_up_off (Or.inr e)]; exact hd j (by omega)
theorem w_Mod_gather {M : pm_M} {flt : Nat} {s : Int32} (hok : pc_ok kd dp w h) (hs : sm_ok kd dp w h f) (hflt : flt ≤ 5) (h19 : mo_sh M kd dp w h) (h20 : mo_s M 20 kd w h f) (hq : ∀ M', mo_d M' (en_of kd dp w h f flt s).1 → (∀ i, i < 5 → M' 23 i = (en_of kd dp w h f flt s).2 i) → mo_ag [12] [23, 25] M M' → Q none M') : pm_PC S (d + 6) 114 [.inr (.inr 19), .inl s, .inl (nI flt)] M Q := by
  have ht := en_tl_ok hok
  refine e_Mod_gather (k_Mod_gather_0 ?_)
  have a0 : mo_ag [12] [23, 25] M (pm_up M 19 12 0) := mo_ag.f (by decide)
  refine w_ga_clr 5 0 _ (by decide) (fun j hj => absurd hj (Nat.not_lt_zero j)) (fun M1 l3 g1 a1 => ?_)
  have A := a0.tr (a1.wd (js' := [12]) (ks' := [23, 25]) (by decide) (by decide))
  have hD : ∀ x, mo_d M1 (([], x) : List Int32 × (Nat → Int32)).1 := by
    intro x
    refine ⟨?_, Nat.zero_le _, fun i y hy => by cases hy⟩
    rw [a1.2 12 (by decide), pm_up_hit]
    rfl
  · unfold en_of at hq
    by_cases e : s = 0
    · rw [if_pos e] at hq
      refine k_Mod_gather_25 (fun _ => k_Mod_gather_33 (k_Mod_gather_35 ?_)) (fun t => absurd e t)
      exact w_ga_all (z := 7) hok hs hflt (Or.inl ⟨e, rfl⟩) 1 7 M1 ([], fun _ => 0) _ _ _ (by decide) (h19.keep A (by decide) (by decide) (by decide) (by decide)) (h20.keep A (by decide)) (hD _) g1 (by simp; omega) (fun M' t1 t2 t3 => hq M' t1 t2 (A.tr t3))
    · rw [if_neg e] at hq
      refine k_Mod_gather_25 (fun t => absurd t e) (fun _ => k_Mod_gather_29 (k_Mod_gather_35 ?_))
      exact w_ga_all (z := 6) hok hs hflt (Or.inr ⟨e, rfl⟩) 7 0 M1 ([], fun _ => 0) _ _ _ (by decide) (h19.keep A (by decide) (by decide) (by decide) (by decide)) (h20.keep A (by decide)) (hD _) g1 (by simp; omega) (fun M' t1 t2 t3 => hq M' t1 t2 (A.tr t3))
end MOD
